/-! THE CLAIM OUT OF ONE WALK OF THE LAW'S BODY. Your part is whole_start (and what it stands on); all else here is the same for every law, but numbers. -/
def R_law : String := "SilentReelLaw"
def lw_P (b : Addr) (xs : List Int32) (args : Array Value) (s : State) : Prop := args = #[.ref b] ∧ s.IntsAt b xs ∧ xs.length ≤ 3072 ∧ (Jvm.Cond.and given_1 narrow_1).before args s = true
def lw_Q (_ : Array Value) (s : State) (o : Outcome) (t : State) : Prop := o = .returned (some (.int 1)) ∧ Framed s o t [] 600000 7302250
def lw_Z (below : List Frame) (a : Array Value) (s : State) : State → Prop := fun t => ∃ o, t.status = .running ∧ Ended t below o ∧ lw_Q a s o t
/-- the law's own end, with 1 on the stack, nothing written that was there before, its room as the claim has it -/
theorem lw_ret {p : Program} {l : Launch} {e : Env} {s : State} {m : MethodId} {below : List Frame} {meth : Method} {c : Code} {b : Nat} (hx : p.tables.exec = Jvm.exec) (hb : c.code = code) (hr : meth.sig.returnType = ret) (hlocks : meth.locks = false) {pc : Nat} {H : Heap} {ls : Array Slot} (hdg : decode code pc = .ok (.ireturn, 1)) : W p l e room_1 s m #[Value.ref b] below meth c H [] 600000 7302250 (lw_Z below #[Value.ref b] s) (F0 m pc ls [.int 1]) := by
  intro T hT X
  obtain ⟨fs, hret, hrun, hended, hW, hframe⟩ := X.leave (v := some (.int 1)) (hlocks := hlocks) (fun h => by rw [hr] at h; cases h)
  have hmeth' : T.vm.method? m = some meth := X.method'
  refine ⟨T.setFrames fs, ?_, .returned (some (.int 1)), hrun, hended, rfl, ⟨_, rfl⟩, hW, hframe⟩
  jvm_step X.here [X.here.top, hx, hb, hdg, hmeth', hr, ret, narrow_b1]
  (try refine ⟨rfl, ?_⟩); (try refine ⟨rfl, ?_⟩)
  first | (intro acts; rw [hret _ acts rfl rfl rfl]) | rw [hret _ _ rfl rfl rfl]
  exact Steps.refl _
/-- what holds at the law's entry: the machine, the code, the tables' words (any of lw_tbl by 'hts w (by decide +kernel)'), the script of L ints xs at the cell b, what the Statement gives of the start (any of its parts by flat_of_before) -/
def lw_At (p : Program) (s : State) (m : MethodId) (meth : Method) (c : Code) (b L : Nat) (xs : Nat → Int32) : Prop :=
  p.tables.exec = Jvm.exec ∧ c.code = code ∧ meth.sig.returnType = ret ∧ c.maxLocals = 4 ∧ s.vm.findClass R_law = some m.cls ∧ (∀ w ∈ lw_tbl, w.before #[Value.ref b] s = true) ∧ va_X b L xs s s.heap ∧ b < s.heap.size ∧ meth.locks = false ∧ (Jvm.Cond.and given_1 narrow_1).before #[Value.ref b] s = true
theorem dL_16 : decode code 16 = .ok (.iconst 0, 1) := by decide +kernel
theorem dL_17 : decode code 17 = .ok (.istore_n 3, 1) := by decide +kernel
theorem dL_18 : decode code 18 = .ok (.iload_n 3, 1) := by decide +kernel
theorem dL_19 : decode code 19 = .ok (.aload_n 0, 1) := by decide +kernel
theorem dL_20 : decode code 20 = .ok (.arraylength, 1) := by decide +kernel
theorem dL_21 : decode code 21 = .ok (.bipush 6, 2) := by decide +kernel
theorem dL_23 : decode code 23 = .ok (.isub, 1) := by decide +kernel
theorem dL_24 : decode code 24 = .ok (.if_icmp .gt 1048, 3) := by decide +kernel
theorem dL_27 : decode code 27 = .ok (.aload_n 0, 1) := by decide +kernel
theorem dL_28 : decode code 28 = .ok (.iload_n 3, 1) := by decide +kernel
theorem dL_29 : decode code 29 = .ok (.iaload, 1) := by decide +kernel
theorem dL_30 : decode code 30 = .ok (.bipush 63, 2) := by decide +kernel
theorem dL_32 : decode code 32 = .ok (.iand, 1) := by decide +kernel
theorem dL_33 : decode code 33 = .ok (.tableswitch 1033 0 33 #[151, 214, 237, 250, 273, 296, 339, 372, 405, 438, 471, 504, 517, 550, 563, 576, 589, 622, 655, 668, 681, 714, 737, 760, 803, 826, 859, 892, 905, 928, 961, 974, 997, 1010], 151) := by decide +kernel
theorem dL_184 : decode code 184 = .ok (.aload_n 1, 1) := by decide +kernel
theorem dL_185 : decode code 185 = .ok (.aload_n 0, 1) := by decide +kernel
theorem dL_186 : decode code 186 = .ok (.iload_n 3, 1) := by decide +kernel
theorem dL_187 : decode code 187 = .ok (.iconst 1, 1) := by decide +kernel
theorem dL_188 : decode code 188 = .ok (.iadd, 1) := by decide +kernel
theorem dL_189 : decode code 189 = .ok (.iaload, 1) := by decide +kernel
theorem dL_190 : decode code 190 = .ok (.aload_n 0, 1) := by decide +kernel
theorem dL_191 : decode code 191 = .ok (.iload_n 3, 1) := by decide +kernel
theorem dL_192 : decode code 192 = .ok (.iconst 2, 1) := by decide +kernel
theorem dL_193 : decode code 193 = .ok (.iadd, 1) := by decide +kernel
theorem dL_194 : decode code 194 = .ok (.iaload, 1) := by decide +kernel
theorem dL_195 : decode code 195 = .ok (.aload_n 0, 1) := by decide +kernel
theorem dL_196 : decode code 196 = .ok (.iload_n 3, 1) := by decide +kernel
theorem dL_197 : decode code 197 = .ok (.iconst 3, 1) := by decide +kernel
theorem dL_198 : decode code 198 = .ok (.iadd, 1) := by decide +kernel
theorem dL_199 : decode code 199 = .ok (.iaload, 1) := by decide +kernel
theorem dL_200 : decode code 200 = .ok (.aload_n 0, 1) := by decide +kernel
theorem dL_201 : decode code 201 = .ok (.iload_n 3, 1) := by decide +kernel
theorem dL_202 : decode code 202 = .ok (.iconst 4, 1) := by decide +kernel
theorem dL_203 : decode code 203 = .ok (.iadd, 1) := by decide +kernel
theorem dL_204 : decode code 204 = .ok (.iaload, 1) := by decide +kernel
theorem dL_205 : decode code 205 = .ok (.aload_n 0, 1) := by decide +kernel
theorem dL_206 : decode code 206 = .ok (.iload_n 3, 1) := by decide +kernel
theorem dL_207 : decode code 207 = .ok (.iconst 5, 1) := by decide +kernel
theorem dL_208 : decode code 208 = .ok (.iadd, 1) := by decide +kernel
theorem dL_209 : decode code 209 = .ok (.iaload, 1) := by decide +kernel
theorem dL_210 : decode code 210 = .ok (.invokevirtual 13, 3) := by decide +kernel
theorem dL_213 : decode code 213 = .ok (.aload_n 2, 1) := by decide +kernel
theorem dL_214 : decode code 214 = .ok (.aload_n 0, 1) := by decide +kernel
theorem dL_215 : decode code 215 = .ok (.iload_n 3, 1) := by decide +kernel
theorem dL_216 : decode code 216 = .ok (.iconst 1, 1) := by decide +kernel
theorem dL_217 : decode code 217 = .ok (.iadd, 1) := by decide +kernel
theorem dL_218 : decode code 218 = .ok (.iaload, 1) := by decide +kernel
theorem dL_219 : decode code 219 = .ok (.aload_n 0, 1) := by decide +kernel
theorem dL_220 : decode code 220 = .ok (.iload_n 3, 1) := by decide +kernel
theorem dL_221 : decode code 221 = .ok (.iconst 2, 1) := by decide +kernel
theorem dL_222 : decode code 222 = .ok (.iadd, 1) := by decide +kernel
theorem dL_223 : decode code 223 = .ok (.iaload, 1) := by decide +kernel
theorem dL_224 : decode code 224 = .ok (.aload_n 0, 1) := by decide +kernel
theorem dL_225 : decode code 225 = .ok (.iload_n 3, 1) := by decide +kernel
theorem dL_226 : decode code 226 = .ok (.iconst 3, 1) := by decide +kernel
theorem dL_227 : decode code 227 = .ok (.iadd, 1) := by decide +kernel
theorem dL_228 : decode code 228 = .ok (.iaload, 1) := by decide +kernel
theorem dL_229 : decode code 229 = .ok (.aload_n 0, 1) := by decide +kernel
theorem dL_230 : decode code 230 = .ok (.iload_n 3, 1) := by decide +kernel
theorem dL_231 : decode code 231 = .ok (.iconst 4, 1) := by decide +kernel
theorem dL_232 : decode code 232 = .ok (.iadd, 1) := by decide +kernel
theorem dL_233 : decode code 233 = .ok (.iaload, 1) := by decide +kernel
theorem dL_234 : decode code 234 = .ok (.aload_n 0, 1) := by decide +kernel
theorem dL_235 : decode code 235 = .ok (.iload_n 3, 1) := by decide +kernel
theorem dL_236 : decode code 236 = .ok (.iconst 5, 1) := by decide +kernel
theorem dL_237 : decode code 237 = .ok (.iadd, 1) := by decide +kernel
theorem dL_238 : decode code 238 = .ok (.iaload, 1) := by decide +kernel
theorem dL_239 : decode code 239 = .ok (.invokevirtual 17, 3) := by decide +kernel
theorem dL_242 : decode code 242 = .ok (.if_icmp .eq 824, 3) := by decide +kernel
theorem dL_245 : decode code 245 = .ok (.iconst 0, 1) := by decide +kernel
theorem dL_246 : decode code 246 = .ok (.ireturn, 1) := by decide +kernel
theorem dL_247 : decode code 247 = .ok (.aload_n 1, 1) := by decide +kernel
theorem dL_248 : decode code 248 = .ok (.aload_n 0, 1) := by decide +kernel
theorem dL_249 : decode code 249 = .ok (.iload_n 3, 1) := by decide +kernel
theorem dL_250 : decode code 250 = .ok (.iconst 1, 1) := by decide +kernel
theorem dL_251 : decode code 251 = .ok (.iadd, 1) := by decide +kernel
theorem dL_252 : decode code 252 = .ok (.iaload, 1) := by decide +kernel
theorem dL_253 : decode code 253 = .ok (.invokevirtual 18, 3) := by decide +kernel
theorem dL_256 : decode code 256 = .ok (.aload_n 2, 1) := by decide +kernel
theorem dL_257 : decode code 257 = .ok (.aload_n 0, 1) := by decide +kernel
theorem dL_258 : decode code 258 = .ok (.iload_n 3, 1) := by decide +kernel
theorem dL_259 : decode code 259 = .ok (.iconst 1, 1) := by decide +kernel
theorem dL_260 : decode code 260 = .ok (.iadd, 1) := by decide +kernel
theorem dL_261 : decode code 261 = .ok (.iaload, 1) := by decide +kernel
theorem dL_262 : decode code 262 = .ok (.invokevirtual 22, 3) := by decide +kernel
theorem dL_265 : decode code 265 = .ok (.if_icmp .eq 801, 3) := by decide +kernel
theorem dL_268 : decode code 268 = .ok (.iconst 0, 1) := by decide +kernel
theorem dL_269 : decode code 269 = .ok (.ireturn, 1) := by decide +kernel
theorem dL_270 : decode code 270 = .ok (.aload_n 1, 1) := by decide +kernel
theorem dL_271 : decode code 271 = .ok (.invokevirtual 23, 3) := by decide +kernel
theorem dL_274 : decode code 274 = .ok (.aload_n 2, 1) := by decide +kernel
theorem dL_275 : decode code 275 = .ok (.invokevirtual 27, 3) := by decide +kernel
theorem dL_278 : decode code 278 = .ok (.if_icmp .eq 788, 3) := by decide +kernel
theorem dL_281 : decode code 281 = .ok (.iconst 0, 1) := by decide +kernel
theorem dL_282 : decode code 282 = .ok (.ireturn, 1) := by decide +kernel
theorem dL_283 : decode code 283 = .ok (.aload_n 1, 1) := by decide +kernel
theorem dL_284 : decode code 284 = .ok (.aload_n 0, 1) := by decide +kernel
theorem dL_285 : decode code 285 = .ok (.iload_n 3, 1) := by decide +kernel
theorem dL_286 : decode code 286 = .ok (.iconst 1, 1) := by decide +kernel
theorem dL_287 : decode code 287 = .ok (.iadd, 1) := by decide +kernel
theorem dL_288 : decode code 288 = .ok (.iaload, 1) := by decide +kernel
theorem dL_289 : decode code 289 = .ok (.invokevirtual 28, 3) := by decide +kernel
theorem dL_292 : decode code 292 = .ok (.aload_n 2, 1) := by decide +kernel
theorem dL_293 : decode code 293 = .ok (.aload_n 0, 1) := by decide +kernel
theorem dL_294 : decode code 294 = .ok (.iload_n 3, 1) := by decide +kernel
theorem dL_295 : decode code 295 = .ok (.iconst 1, 1) := by decide +kernel
theorem dL_296 : decode code 296 = .ok (.iadd, 1) := by decide +kernel
theorem dL_297 : decode code 297 = .ok (.iaload, 1) := by decide +kernel
theorem dL_298 : decode code 298 = .ok (.invokevirtual 32, 3) := by decide +kernel
theorem dL_301 : decode code 301 = .ok (.if_icmp .eq 765, 3) := by decide +kernel
theorem dL_304 : decode code 304 = .ok (.iconst 0, 1) := by decide +kernel
theorem dL_305 : decode code 305 = .ok (.ireturn, 1) := by decide +kernel
theorem dL_306 : decode code 306 = .ok (.aload_n 1, 1) := by decide +kernel
theorem dL_307 : decode code 307 = .ok (.aload_n 0, 1) := by decide +kernel
theorem dL_308 : decode code 308 = .ok (.iload_n 3, 1) := by decide +kernel
theorem dL_309 : decode code 309 = .ok (.iconst 1, 1) := by decide +kernel
theorem dL_310 : decode code 310 = .ok (.iadd, 1) := by decide +kernel
theorem dL_311 : decode code 311 = .ok (.iaload, 1) := by decide +kernel
theorem dL_312 : decode code 312 = .ok (.invokevirtual 33, 3) := by decide +kernel
theorem dL_315 : decode code 315 = .ok (.aload_n 2, 1) := by decide +kernel
theorem dL_316 : decode code 316 = .ok (.aload_n 0, 1) := by decide +kernel
theorem dL_317 : decode code 317 = .ok (.iload_n 3, 1) := by decide +kernel
theorem dL_318 : decode code 318 = .ok (.iconst 1, 1) := by decide +kernel
theorem dL_319 : decode code 319 = .ok (.iadd, 1) := by decide +kernel
theorem dL_320 : decode code 320 = .ok (.iaload, 1) := by decide +kernel
theorem dL_321 : decode code 321 = .ok (.invokevirtual 36, 3) := by decide +kernel
theorem dL_324 : decode code 324 = .ok (.if_icmp .eq 742, 3) := by decide +kernel
theorem dL_327 : decode code 327 = .ok (.iconst 0, 1) := by decide +kernel
theorem dL_328 : decode code 328 = .ok (.ireturn, 1) := by decide +kernel
theorem dL_329 : decode code 329 = .ok (.aload_n 1, 1) := by decide +kernel
theorem dL_330 : decode code 330 = .ok (.aload_n 0, 1) := by decide +kernel
theorem dL_331 : decode code 331 = .ok (.iload_n 3, 1) := by decide +kernel
theorem dL_332 : decode code 332 = .ok (.iconst 1, 1) := by decide +kernel
theorem dL_333 : decode code 333 = .ok (.iadd, 1) := by decide +kernel
theorem dL_334 : decode code 334 = .ok (.iaload, 1) := by decide +kernel
theorem dL_335 : decode code 335 = .ok (.aload_n 0, 1) := by decide +kernel
theorem dL_336 : decode code 336 = .ok (.iload_n 3, 1) := by decide +kernel
theorem dL_337 : decode code 337 = .ok (.iconst 2, 1) := by decide +kernel
theorem dL_338 : decode code 338 = .ok (.iadd, 1) := by decide +kernel
theorem dL_339 : decode code 339 = .ok (.iaload, 1) := by decide +kernel
theorem dL_340 : decode code 340 = .ok (.aload_n 0, 1) := by decide +kernel
theorem dL_341 : decode code 341 = .ok (.iload_n 3, 1) := by decide +kernel
theorem dL_342 : decode code 342 = .ok (.iconst 3, 1) := by decide +kernel
theorem dL_343 : decode code 343 = .ok (.iadd, 1) := by decide +kernel
theorem dL_344 : decode code 344 = .ok (.iaload, 1) := by decide +kernel
theorem dL_345 : decode code 345 = .ok (.invokevirtual 37, 3) := by decide +kernel
theorem dL_348 : decode code 348 = .ok (.aload_n 2, 1) := by decide +kernel
theorem dL_349 : decode code 349 = .ok (.aload_n 0, 1) := by decide +kernel
theorem dL_350 : decode code 350 = .ok (.iload_n 3, 1) := by decide +kernel
theorem dL_351 : decode code 351 = .ok (.iconst 1, 1) := by decide +kernel
theorem dL_352 : decode code 352 = .ok (.iadd, 1) := by decide +kernel
theorem dL_353 : decode code 353 = .ok (.iaload, 1) := by decide +kernel
theorem dL_354 : decode code 354 = .ok (.aload_n 0, 1) := by decide +kernel
theorem dL_355 : decode code 355 = .ok (.iload_n 3, 1) := by decide +kernel
theorem dL_356 : decode code 356 = .ok (.iconst 2, 1) := by decide +kernel
theorem dL_357 : decode code 357 = .ok (.iadd, 1) := by decide +kernel
theorem dL_358 : decode code 358 = .ok (.iaload, 1) := by decide +kernel
theorem dL_359 : decode code 359 = .ok (.aload_n 0, 1) := by decide +kernel
theorem dL_360 : decode code 360 = .ok (.iload_n 3, 1) := by decide +kernel
theorem dL_361 : decode code 361 = .ok (.iconst 3, 1) := by decide +kernel
theorem dL_362 : decode code 362 = .ok (.iadd, 1) := by decide +kernel
theorem dL_363 : decode code 363 = .ok (.iaload, 1) := by decide +kernel
theorem dL_364 : decode code 364 = .ok (.invokevirtual 41, 3) := by decide +kernel
theorem dL_367 : decode code 367 = .ok (.if_icmp .eq 699, 3) := by decide +kernel
theorem dL_370 : decode code 370 = .ok (.iconst 0, 1) := by decide +kernel
theorem dL_371 : decode code 371 = .ok (.ireturn, 1) := by decide +kernel
theorem dL_372 : decode code 372 = .ok (.aload_n 1, 1) := by decide +kernel
theorem dL_373 : decode code 373 = .ok (.aload_n 0, 1) := by decide +kernel
theorem dL_374 : decode code 374 = .ok (.iload_n 3, 1) := by decide +kernel
theorem dL_375 : decode code 375 = .ok (.iconst 1, 1) := by decide +kernel
theorem dL_376 : decode code 376 = .ok (.iadd, 1) := by decide +kernel
theorem dL_377 : decode code 377 = .ok (.iaload, 1) := by decide +kernel
theorem dL_378 : decode code 378 = .ok (.aload_n 0, 1) := by decide +kernel
theorem dL_379 : decode code 379 = .ok (.iload_n 3, 1) := by decide +kernel
theorem dL_380 : decode code 380 = .ok (.iconst 2, 1) := by decide +kernel
theorem dL_381 : decode code 381 = .ok (.iadd, 1) := by decide +kernel
theorem dL_382 : decode code 382 = .ok (.iaload, 1) := by decide +kernel
theorem dL_383 : decode code 383 = .ok (.invokevirtual 42, 3) := by decide +kernel
theorem dL_386 : decode code 386 = .ok (.aload_n 2, 1) := by decide +kernel
theorem dL_387 : decode code 387 = .ok (.aload_n 0, 1) := by decide +kernel
theorem dL_388 : decode code 388 = .ok (.iload_n 3, 1) := by decide +kernel
theorem dL_389 : decode code 389 = .ok (.iconst 1, 1) := by decide +kernel
theorem dL_390 : decode code 390 = .ok (.iadd, 1) := by decide +kernel
theorem dL_391 : decode code 391 = .ok (.iaload, 1) := by decide +kernel
theorem dL_392 : decode code 392 = .ok (.aload_n 0, 1) := by decide +kernel
theorem dL_393 : decode code 393 = .ok (.iload_n 3, 1) := by decide +kernel
theorem dL_394 : decode code 394 = .ok (.iconst 2, 1) := by decide +kernel
theorem dL_395 : decode code 395 = .ok (.iadd, 1) := by decide +kernel
theorem dL_396 : decode code 396 = .ok (.iaload, 1) := by decide +kernel
theorem dL_397 : decode code 397 = .ok (.invokevirtual 46, 3) := by decide +kernel
theorem dL_400 : decode code 400 = .ok (.if_icmp .eq 666, 3) := by decide +kernel
theorem dL_403 : decode code 403 = .ok (.iconst 0, 1) := by decide +kernel
theorem dL_404 : decode code 404 = .ok (.ireturn, 1) := by decide +kernel
theorem dL_405 : decode code 405 = .ok (.aload_n 1, 1) := by decide +kernel
theorem dL_406 : decode code 406 = .ok (.aload_n 0, 1) := by decide +kernel
theorem dL_407 : decode code 407 = .ok (.iload_n 3, 1) := by decide +kernel
theorem dL_408 : decode code 408 = .ok (.iconst 1, 1) := by decide +kernel
theorem dL_409 : decode code 409 = .ok (.iadd, 1) := by decide +kernel
theorem dL_410 : decode code 410 = .ok (.iaload, 1) := by decide +kernel
theorem dL_411 : decode code 411 = .ok (.aload_n 0, 1) := by decide +kernel
theorem dL_412 : decode code 412 = .ok (.iload_n 3, 1) := by decide +kernel
theorem dL_413 : decode code 413 = .ok (.iconst 2, 1) := by decide +kernel
theorem dL_414 : decode code 414 = .ok (.iadd, 1) := by decide +kernel
theorem dL_415 : decode code 415 = .ok (.iaload, 1) := by decide +kernel
theorem dL_416 : decode code 416 = .ok (.invokevirtual 47, 3) := by decide +kernel
theorem dL_419 : decode code 419 = .ok (.aload_n 2, 1) := by decide +kernel
theorem dL_420 : decode code 420 = .ok (.aload_n 0, 1) := by decide +kernel
theorem dL_421 : decode code 421 = .ok (.iload_n 3, 1) := by decide +kernel
theorem dL_422 : decode code 422 = .ok (.iconst 1, 1) := by decide +kernel
theorem dL_423 : decode code 423 = .ok (.iadd, 1) := by decide +kernel
theorem dL_424 : decode code 424 = .ok (.iaload, 1) := by decide +kernel
theorem dL_425 : decode code 425 = .ok (.aload_n 0, 1) := by decide +kernel
theorem dL_426 : decode code 426 = .ok (.iload_n 3, 1) := by decide +kernel
theorem dL_427 : decode code 427 = .ok (.iconst 2, 1) := by decide +kernel
theorem dL_428 : decode code 428 = .ok (.iadd, 1) := by decide +kernel
theorem dL_429 : decode code 429 = .ok (.iaload, 1) := by decide +kernel
theorem dL_430 : decode code 430 = .ok (.invokevirtual 50, 3) := by decide +kernel
theorem dL_433 : decode code 433 = .ok (.if_icmp .eq 633, 3) := by decide +kernel
theorem dL_436 : decode code 436 = .ok (.iconst 0, 1) := by decide +kernel
theorem dL_437 : decode code 437 = .ok (.ireturn, 1) := by decide +kernel
theorem dL_438 : decode code 438 = .ok (.aload_n 1, 1) := by decide +kernel
theorem dL_439 : decode code 439 = .ok (.aload_n 0, 1) := by decide +kernel
theorem dL_440 : decode code 440 = .ok (.iload_n 3, 1) := by decide +kernel
theorem dL_441 : decode code 441 = .ok (.iconst 1, 1) := by decide +kernel
theorem dL_442 : decode code 442 = .ok (.iadd, 1) := by decide +kernel
theorem dL_443 : decode code 443 = .ok (.iaload, 1) := by decide +kernel
theorem dL_444 : decode code 444 = .ok (.aload_n 0, 1) := by decide +kernel
theorem dL_445 : decode code 445 = .ok (.iload_n 3, 1) := by decide +kernel
theorem dL_446 : decode code 446 = .ok (.iconst 2, 1) := by decide +kernel
theorem dL_447 : decode code 447 = .ok (.iadd, 1) := by decide +kernel
theorem dL_448 : decode code 448 = .ok (.iaload, 1) := by decide +kernel
theorem dL_449 : decode code 449 = .ok (.invokevirtual 51, 3) := by decide +kernel
theorem dL_452 : decode code 452 = .ok (.aload_n 2, 1) := by decide +kernel
theorem dL_453 : decode code 453 = .ok (.aload_n 0, 1) := by decide +kernel
theorem dL_454 : decode code 454 = .ok (.iload_n 3, 1) := by decide +kernel
theorem dL_455 : decode code 455 = .ok (.iconst 1, 1) := by decide +kernel
theorem dL_456 : decode code 456 = .ok (.iadd, 1) := by decide +kernel
theorem dL_457 : decode code 457 = .ok (.iaload, 1) := by decide +kernel
theorem dL_458 : decode code 458 = .ok (.aload_n 0, 1) := by decide +kernel
theorem dL_459 : decode code 459 = .ok (.iload_n 3, 1) := by decide +kernel
theorem dL_460 : decode code 460 = .ok (.iconst 2, 1) := by decide +kernel
theorem dL_461 : decode code 461 = .ok (.iadd, 1) := by decide +kernel
theorem dL_462 : decode code 462 = .ok (.iaload, 1) := by decide +kernel
theorem dL_463 : decode code 463 = .ok (.invokevirtual 54, 3) := by decide +kernel
theorem dL_466 : decode code 466 = .ok (.if_icmp .eq 600, 3) := by decide +kernel
theorem dL_469 : decode code 469 = .ok (.iconst 0, 1) := by decide +kernel
theorem dL_470 : decode code 470 = .ok (.ireturn, 1) := by decide +kernel
theorem dL_471 : decode code 471 = .ok (.aload_n 1, 1) := by decide +kernel
theorem dL_472 : decode code 472 = .ok (.aload_n 0, 1) := by decide +kernel
theorem dL_473 : decode code 473 = .ok (.iload_n 3, 1) := by decide +kernel
theorem dL_474 : decode code 474 = .ok (.iconst 1, 1) := by decide +kernel
theorem dL_475 : decode code 475 = .ok (.iadd, 1) := by decide +kernel
theorem dL_476 : decode code 476 = .ok (.iaload, 1) := by decide +kernel
theorem dL_477 : decode code 477 = .ok (.aload_n 0, 1) := by decide +kernel
theorem dL_478 : decode code 478 = .ok (.iload_n 3, 1) := by decide +kernel
theorem dL_479 : decode code 479 = .ok (.iconst 2, 1) := by decide +kernel
theorem dL_480 : decode code 480 = .ok (.iadd, 1) := by decide +kernel
theorem dL_481 : decode code 481 = .ok (.iaload, 1) := by decide +kernel
theorem dL_482 : decode code 482 = .ok (.invokevirtual 55, 3) := by decide +kernel
theorem dL_485 : decode code 485 = .ok (.aload_n 2, 1) := by decide +kernel
theorem dL_486 : decode code 486 = .ok (.aload_n 0, 1) := by decide +kernel
theorem dL_487 : decode code 487 = .ok (.iload_n 3, 1) := by decide +kernel
theorem dL_488 : decode code 488 = .ok (.iconst 1, 1) := by decide +kernel
theorem dL_489 : decode code 489 = .ok (.iadd, 1) := by decide +kernel
theorem dL_490 : decode code 490 = .ok (.iaload, 1) := by decide +kernel
theorem dL_491 : decode code 491 = .ok (.aload_n 0, 1) := by decide +kernel
theorem dL_492 : decode code 492 = .ok (.iload_n 3, 1) := by decide +kernel
theorem dL_493 : decode code 493 = .ok (.iconst 2, 1) := by decide +kernel
theorem dL_494 : decode code 494 = .ok (.iadd, 1) := by decide +kernel
theorem dL_495 : decode code 495 = .ok (.iaload, 1) := by decide +kernel
theorem dL_496 : decode code 496 = .ok (.invokevirtual 58, 3) := by decide +kernel
theorem dL_499 : decode code 499 = .ok (.if_icmp .eq 567, 3) := by decide +kernel
theorem dL_502 : decode code 502 = .ok (.iconst 0, 1) := by decide +kernel
theorem dL_503 : decode code 503 = .ok (.ireturn, 1) := by decide +kernel
theorem dL_504 : decode code 504 = .ok (.aload_n 1, 1) := by decide +kernel
theorem dL_505 : decode code 505 = .ok (.aload_n 0, 1) := by decide +kernel
theorem dL_506 : decode code 506 = .ok (.iload_n 3, 1) := by decide +kernel
theorem dL_507 : decode code 507 = .ok (.iconst 1, 1) := by decide +kernel
theorem dL_508 : decode code 508 = .ok (.iadd, 1) := by decide +kernel
theorem dL_509 : decode code 509 = .ok (.iaload, 1) := by decide +kernel
theorem dL_510 : decode code 510 = .ok (.aload_n 0, 1) := by decide +kernel
theorem dL_511 : decode code 511 = .ok (.iload_n 3, 1) := by decide +kernel
theorem dL_512 : decode code 512 = .ok (.iconst 2, 1) := by decide +kernel
theorem dL_513 : decode code 513 = .ok (.iadd, 1) := by decide +kernel
theorem dL_514 : decode code 514 = .ok (.iaload, 1) := by decide +kernel
theorem dL_515 : decode code 515 = .ok (.invokevirtual 59, 3) := by decide +kernel
theorem dL_518 : decode code 518 = .ok (.aload_n 2, 1) := by decide +kernel
theorem dL_519 : decode code 519 = .ok (.aload_n 0, 1) := by decide +kernel
theorem dL_520 : decode code 520 = .ok (.iload_n 3, 1) := by decide +kernel
theorem dL_521 : decode code 521 = .ok (.iconst 1, 1) := by decide +kernel
theorem dL_522 : decode code 522 = .ok (.iadd, 1) := by decide +kernel
theorem dL_523 : decode code 523 = .ok (.iaload, 1) := by decide +kernel
theorem dL_524 : decode code 524 = .ok (.aload_n 0, 1) := by decide +kernel
theorem dL_525 : decode code 525 = .ok (.iload_n 3, 1) := by decide +kernel
theorem dL_526 : decode code 526 = .ok (.iconst 2, 1) := by decide +kernel
theorem dL_527 : decode code 527 = .ok (.iadd, 1) := by decide +kernel
theorem dL_528 : decode code 528 = .ok (.iaload, 1) := by decide +kernel
theorem dL_529 : decode code 529 = .ok (.invokevirtual 62, 3) := by decide +kernel
theorem dL_532 : decode code 532 = .ok (.if_icmp .eq 534, 3) := by decide +kernel
theorem dL_535 : decode code 535 = .ok (.iconst 0, 1) := by decide +kernel
theorem dL_536 : decode code 536 = .ok (.ireturn, 1) := by decide +kernel
theorem dL_537 : decode code 537 = .ok (.aload_n 1, 1) := by decide +kernel
theorem dL_538 : decode code 538 = .ok (.invokevirtual 63, 3) := by decide +kernel
theorem dL_541 : decode code 541 = .ok (.aload_n 2, 1) := by decide +kernel
theorem dL_542 : decode code 542 = .ok (.invokevirtual 66, 3) := by decide +kernel
theorem dL_545 : decode code 545 = .ok (.if_icmp .eq 521, 3) := by decide +kernel
theorem dL_548 : decode code 548 = .ok (.iconst 0, 1) := by decide +kernel
theorem dL_549 : decode code 549 = .ok (.ireturn, 1) := by decide +kernel
theorem dL_550 : decode code 550 = .ok (.aload_n 1, 1) := by decide +kernel
theorem dL_551 : decode code 551 = .ok (.aload_n 0, 1) := by decide +kernel
theorem dL_552 : decode code 552 = .ok (.iload_n 3, 1) := by decide +kernel
theorem dL_553 : decode code 553 = .ok (.iconst 1, 1) := by decide +kernel
theorem dL_554 : decode code 554 = .ok (.iadd, 1) := by decide +kernel
theorem dL_555 : decode code 555 = .ok (.iaload, 1) := by decide +kernel
theorem dL_556 : decode code 556 = .ok (.aload_n 0, 1) := by decide +kernel
theorem dL_557 : decode code 557 = .ok (.iload_n 3, 1) := by decide +kernel
theorem dL_558 : decode code 558 = .ok (.iconst 2, 1) := by decide +kernel
theorem dL_559 : decode code 559 = .ok (.iadd, 1) := by decide +kernel
theorem dL_560 : decode code 560 = .ok (.iaload, 1) := by decide +kernel
theorem dL_561 : decode code 561 = .ok (.invokevirtual 67, 3) := by decide +kernel
theorem dL_564 : decode code 564 = .ok (.aload_n 2, 1) := by decide +kernel
theorem dL_565 : decode code 565 = .ok (.aload_n 0, 1) := by decide +kernel
theorem dL_566 : decode code 566 = .ok (.iload_n 3, 1) := by decide +kernel
theorem dL_567 : decode code 567 = .ok (.iconst 1, 1) := by decide +kernel
theorem dL_568 : decode code 568 = .ok (.iadd, 1) := by decide +kernel
theorem dL_569 : decode code 569 = .ok (.iaload, 1) := by decide +kernel
theorem dL_570 : decode code 570 = .ok (.aload_n 0, 1) := by decide +kernel
theorem dL_571 : decode code 571 = .ok (.iload_n 3, 1) := by decide +kernel
theorem dL_572 : decode code 572 = .ok (.iconst 2, 1) := by decide +kernel
theorem dL_573 : decode code 573 = .ok (.iadd, 1) := by decide +kernel
theorem dL_574 : decode code 574 = .ok (.iaload, 1) := by decide +kernel
theorem dL_575 : decode code 575 = .ok (.invokevirtual 70, 3) := by decide +kernel
theorem dL_578 : decode code 578 = .ok (.if_icmp .eq 488, 3) := by decide +kernel
theorem dL_581 : decode code 581 = .ok (.iconst 0, 1) := by decide +kernel
theorem dL_582 : decode code 582 = .ok (.ireturn, 1) := by decide +kernel
theorem dL_583 : decode code 583 = .ok (.aload_n 1, 1) := by decide +kernel
theorem dL_584 : decode code 584 = .ok (.invokevirtual 71, 3) := by decide +kernel
theorem dL_587 : decode code 587 = .ok (.aload_n 2, 1) := by decide +kernel
theorem dL_588 : decode code 588 = .ok (.invokevirtual 74, 3) := by decide +kernel
theorem dL_591 : decode code 591 = .ok (.if_icmp .eq 475, 3) := by decide +kernel
theorem dL_594 : decode code 594 = .ok (.iconst 0, 1) := by decide +kernel
theorem dL_595 : decode code 595 = .ok (.ireturn, 1) := by decide +kernel
theorem dL_596 : decode code 596 = .ok (.aload_n 1, 1) := by decide +kernel
theorem dL_597 : decode code 597 = .ok (.invokevirtual 75, 3) := by decide +kernel
theorem dL_600 : decode code 600 = .ok (.aload_n 2, 1) := by decide +kernel
theorem dL_601 : decode code 601 = .ok (.invokevirtual 78, 3) := by decide +kernel
theorem dL_604 : decode code 604 = .ok (.if_icmp .eq 462, 3) := by decide +kernel
theorem dL_607 : decode code 607 = .ok (.iconst 0, 1) := by decide +kernel
theorem dL_608 : decode code 608 = .ok (.ireturn, 1) := by decide +kernel
theorem dL_609 : decode code 609 = .ok (.aload_n 1, 1) := by decide +kernel
theorem dL_610 : decode code 610 = .ok (.invokevirtual 79, 3) := by decide +kernel
theorem dL_613 : decode code 613 = .ok (.aload_n 2, 1) := by decide +kernel
theorem dL_614 : decode code 614 = .ok (.invokevirtual 82, 3) := by decide +kernel
theorem dL_617 : decode code 617 = .ok (.if_icmp .eq 449, 3) := by decide +kernel
theorem dL_620 : decode code 620 = .ok (.iconst 0, 1) := by decide +kernel
theorem dL_621 : decode code 621 = .ok (.ireturn, 1) := by decide +kernel
theorem dL_622 : decode code 622 = .ok (.aload_n 1, 1) := by decide +kernel
theorem dL_623 : decode code 623 = .ok (.aload_n 0, 1) := by decide +kernel
theorem dL_624 : decode code 624 = .ok (.iload_n 3, 1) := by decide +kernel
theorem dL_625 : decode code 625 = .ok (.iconst 1, 1) := by decide +kernel
theorem dL_626 : decode code 626 = .ok (.iadd, 1) := by decide +kernel
theorem dL_627 : decode code 627 = .ok (.iaload, 1) := by decide +kernel
theorem dL_628 : decode code 628 = .ok (.aload_n 0, 1) := by decide +kernel
theorem dL_629 : decode code 629 = .ok (.iload_n 3, 1) := by decide +kernel
theorem dL_630 : decode code 630 = .ok (.iconst 2, 1) := by decide +kernel
theorem dL_631 : decode code 631 = .ok (.iadd, 1) := by decide +kernel
theorem dL_632 : decode code 632 = .ok (.iaload, 1) := by decide +kernel
theorem dL_633 : decode code 633 = .ok (.invokevirtual 83, 3) := by decide +kernel
theorem dL_636 : decode code 636 = .ok (.aload_n 2, 1) := by decide +kernel
theorem dL_637 : decode code 637 = .ok (.aload_n 0, 1) := by decide +kernel
theorem dL_638 : decode code 638 = .ok (.iload_n 3, 1) := by decide +kernel
theorem dL_639 : decode code 639 = .ok (.iconst 1, 1) := by decide +kernel
theorem dL_640 : decode code 640 = .ok (.iadd, 1) := by decide +kernel
theorem dL_641 : decode code 641 = .ok (.iaload, 1) := by decide +kernel
theorem dL_642 : decode code 642 = .ok (.aload_n 0, 1) := by decide +kernel
theorem dL_643 : decode code 643 = .ok (.iload_n 3, 1) := by decide +kernel
theorem dL_644 : decode code 644 = .ok (.iconst 2, 1) := by decide +kernel
theorem dL_645 : decode code 645 = .ok (.iadd, 1) := by decide +kernel
theorem dL_646 : decode code 646 = .ok (.iaload, 1) := by decide +kernel
theorem dL_647 : decode code 647 = .ok (.invokevirtual 86, 3) := by decide +kernel
theorem dL_650 : decode code 650 = .ok (.if_icmp .eq 416, 3) := by decide +kernel
theorem dL_653 : decode code 653 = .ok (.iconst 0, 1) := by decide +kernel
theorem dL_654 : decode code 654 = .ok (.ireturn, 1) := by decide +kernel
theorem dL_655 : decode code 655 = .ok (.aload_n 1, 1) := by decide +kernel
theorem dL_656 : decode code 656 = .ok (.aload_n 0, 1) := by decide +kernel
theorem dL_657 : decode code 657 = .ok (.iload_n 3, 1) := by decide +kernel
theorem dL_658 : decode code 658 = .ok (.iconst 1, 1) := by decide +kernel
theorem dL_659 : decode code 659 = .ok (.iadd, 1) := by decide +kernel
theorem dL_660 : decode code 660 = .ok (.iaload, 1) := by decide +kernel
theorem dL_661 : decode code 661 = .ok (.aload_n 0, 1) := by decide +kernel
theorem dL_662 : decode code 662 = .ok (.iload_n 3, 1) := by decide +kernel
theorem dL_663 : decode code 663 = .ok (.iconst 2, 1) := by decide +kernel
theorem dL_664 : decode code 664 = .ok (.iadd, 1) := by decide +kernel
theorem dL_665 : decode code 665 = .ok (.iaload, 1) := by decide +kernel
theorem dL_666 : decode code 666 = .ok (.invokevirtual 87, 3) := by decide +kernel
theorem dL_669 : decode code 669 = .ok (.aload_n 2, 1) := by decide +kernel
theorem dL_670 : decode code 670 = .ok (.aload_n 0, 1) := by decide +kernel
theorem dL_671 : decode code 671 = .ok (.iload_n 3, 1) := by decide +kernel
theorem dL_672 : decode code 672 = .ok (.iconst 1, 1) := by decide +kernel
theorem dL_673 : decode code 673 = .ok (.iadd, 1) := by decide +kernel
theorem dL_674 : decode code 674 = .ok (.iaload, 1) := by decide +kernel
theorem dL_675 : decode code 675 = .ok (.aload_n 0, 1) := by decide +kernel
theorem dL_676 : decode code 676 = .ok (.iload_n 3, 1) := by decide +kernel
theorem dL_677 : decode code 677 = .ok (.iconst 2, 1) := by decide +kernel
theorem dL_678 : decode code 678 = .ok (.iadd, 1) := by decide +kernel
theorem dL_679 : decode code 679 = .ok (.iaload, 1) := by decide +kernel
theorem dL_680 : decode code 680 = .ok (.invokevirtual 90, 3) := by decide +kernel
theorem dL_683 : decode code 683 = .ok (.if_icmp .eq 383, 3) := by decide +kernel
theorem dL_686 : decode code 686 = .ok (.iconst 0, 1) := by decide +kernel
theorem dL_687 : decode code 687 = .ok (.ireturn, 1) := by decide +kernel
theorem dL_688 : decode code 688 = .ok (.aload_n 1, 1) := by decide +kernel
theorem dL_689 : decode code 689 = .ok (.invokevirtual 91, 3) := by decide +kernel
theorem dL_692 : decode code 692 = .ok (.aload_n 2, 1) := by decide +kernel
theorem dL_693 : decode code 693 = .ok (.invokevirtual 94, 3) := by decide +kernel
theorem dL_696 : decode code 696 = .ok (.if_icmp .eq 370, 3) := by decide +kernel
theorem dL_699 : decode code 699 = .ok (.iconst 0, 1) := by decide +kernel
theorem dL_700 : decode code 700 = .ok (.ireturn, 1) := by decide +kernel
theorem dL_701 : decode code 701 = .ok (.aload_n 1, 1) := by decide +kernel
theorem dL_702 : decode code 702 = .ok (.invokevirtual 95, 3) := by decide +kernel
theorem dL_705 : decode code 705 = .ok (.aload_n 2, 1) := by decide +kernel
theorem dL_706 : decode code 706 = .ok (.invokevirtual 98, 3) := by decide +kernel
theorem dL_709 : decode code 709 = .ok (.if_icmp .eq 357, 3) := by decide +kernel
theorem dL_712 : decode code 712 = .ok (.iconst 0, 1) := by decide +kernel
theorem dL_713 : decode code 713 = .ok (.ireturn, 1) := by decide +kernel
theorem dL_714 : decode code 714 = .ok (.aload_n 1, 1) := by decide +kernel
theorem dL_715 : decode code 715 = .ok (.aload_n 0, 1) := by decide +kernel
theorem dL_716 : decode code 716 = .ok (.iload_n 3, 1) := by decide +kernel
theorem dL_717 : decode code 717 = .ok (.iconst 1, 1) := by decide +kernel
theorem dL_718 : decode code 718 = .ok (.iadd, 1) := by decide +kernel
theorem dL_719 : decode code 719 = .ok (.iaload, 1) := by decide +kernel
theorem dL_720 : decode code 720 = .ok (.aload_n 0, 1) := by decide +kernel
theorem dL_721 : decode code 721 = .ok (.iload_n 3, 1) := by decide +kernel
theorem dL_722 : decode code 722 = .ok (.iconst 2, 1) := by decide +kernel
theorem dL_723 : decode code 723 = .ok (.iadd, 1) := by decide +kernel
theorem dL_724 : decode code 724 = .ok (.iaload, 1) := by decide +kernel
theorem dL_725 : decode code 725 = .ok (.invokevirtual 99, 3) := by decide +kernel
theorem dL_728 : decode code 728 = .ok (.aload_n 2, 1) := by decide +kernel
theorem dL_729 : decode code 729 = .ok (.aload_n 0, 1) := by decide +kernel
theorem dL_730 : decode code 730 = .ok (.iload_n 3, 1) := by decide +kernel
theorem dL_731 : decode code 731 = .ok (.iconst 1, 1) := by decide +kernel
theorem dL_732 : decode code 732 = .ok (.iadd, 1) := by decide +kernel
theorem dL_733 : decode code 733 = .ok (.iaload, 1) := by decide +kernel
theorem dL_734 : decode code 734 = .ok (.aload_n 0, 1) := by decide +kernel
theorem dL_735 : decode code 735 = .ok (.iload_n 3, 1) := by decide +kernel
theorem dL_736 : decode code 736 = .ok (.iconst 2, 1) := by decide +kernel
theorem dL_737 : decode code 737 = .ok (.iadd, 1) := by decide +kernel
theorem dL_738 : decode code 738 = .ok (.iaload, 1) := by decide +kernel
theorem dL_739 : decode code 739 = .ok (.invokevirtual 102, 3) := by decide +kernel
theorem dL_742 : decode code 742 = .ok (.if_icmp .eq 324, 3) := by decide +kernel
theorem dL_745 : decode code 745 = .ok (.iconst 0, 1) := by decide +kernel
theorem dL_746 : decode code 746 = .ok (.ireturn, 1) := by decide +kernel
theorem dL_747 : decode code 747 = .ok (.aload_n 1, 1) := by decide +kernel
theorem dL_748 : decode code 748 = .ok (.aload_n 0, 1) := by decide +kernel
theorem dL_749 : decode code 749 = .ok (.iload_n 3, 1) := by decide +kernel
theorem dL_750 : decode code 750 = .ok (.iconst 1, 1) := by decide +kernel
theorem dL_751 : decode code 751 = .ok (.iadd, 1) := by decide +kernel
theorem dL_752 : decode code 752 = .ok (.iaload, 1) := by decide +kernel
theorem dL_753 : decode code 753 = .ok (.invokevirtual 103, 3) := by decide +kernel
theorem dL_756 : decode code 756 = .ok (.aload_n 2, 1) := by decide +kernel
theorem dL_757 : decode code 757 = .ok (.aload_n 0, 1) := by decide +kernel
theorem dL_758 : decode code 758 = .ok (.iload_n 3, 1) := by decide +kernel
theorem dL_759 : decode code 759 = .ok (.iconst 1, 1) := by decide +kernel
theorem dL_760 : decode code 760 = .ok (.iadd, 1) := by decide +kernel
theorem dL_761 : decode code 761 = .ok (.iaload, 1) := by decide +kernel
theorem dL_762 : decode code 762 = .ok (.invokevirtual 106, 3) := by decide +kernel
theorem dL_765 : decode code 765 = .ok (.if_icmp .eq 301, 3) := by decide +kernel
theorem dL_768 : decode code 768 = .ok (.iconst 0, 1) := by decide +kernel
theorem dL_769 : decode code 769 = .ok (.ireturn, 1) := by decide +kernel
theorem dL_770 : decode code 770 = .ok (.aload_n 1, 1) := by decide +kernel
theorem dL_771 : decode code 771 = .ok (.aload_n 0, 1) := by decide +kernel
theorem dL_772 : decode code 772 = .ok (.iload_n 3, 1) := by decide +kernel
theorem dL_773 : decode code 773 = .ok (.iconst 1, 1) := by decide +kernel
theorem dL_774 : decode code 774 = .ok (.iadd, 1) := by decide +kernel
theorem dL_775 : decode code 775 = .ok (.iaload, 1) := by decide +kernel
theorem dL_776 : decode code 776 = .ok (.invokevirtual 107, 3) := by decide +kernel
theorem dL_779 : decode code 779 = .ok (.aload_n 2, 1) := by decide +kernel
theorem dL_780 : decode code 780 = .ok (.aload_n 0, 1) := by decide +kernel
theorem dL_781 : decode code 781 = .ok (.iload_n 3, 1) := by decide +kernel
theorem dL_782 : decode code 782 = .ok (.iconst 1, 1) := by decide +kernel
theorem dL_783 : decode code 783 = .ok (.iadd, 1) := by decide +kernel
theorem dL_784 : decode code 784 = .ok (.iaload, 1) := by decide +kernel
theorem dL_785 : decode code 785 = .ok (.invokevirtual 110, 3) := by decide +kernel
theorem dL_788 : decode code 788 = .ok (.if_icmp .eq 278, 3) := by decide +kernel
theorem dL_791 : decode code 791 = .ok (.iconst 0, 1) := by decide +kernel
theorem dL_792 : decode code 792 = .ok (.ireturn, 1) := by decide +kernel
theorem dL_793 : decode code 793 = .ok (.aload_n 1, 1) := by decide +kernel
theorem dL_794 : decode code 794 = .ok (.aload_n 0, 1) := by decide +kernel
theorem dL_795 : decode code 795 = .ok (.iload_n 3, 1) := by decide +kernel
theorem dL_796 : decode code 796 = .ok (.iconst 1, 1) := by decide +kernel
theorem dL_797 : decode code 797 = .ok (.iadd, 1) := by decide +kernel
theorem dL_798 : decode code 798 = .ok (.iaload, 1) := by decide +kernel
theorem dL_799 : decode code 799 = .ok (.aload_n 0, 1) := by decide +kernel
theorem dL_800 : decode code 800 = .ok (.iload_n 3, 1) := by decide +kernel
theorem dL_801 : decode code 801 = .ok (.iconst 2, 1) := by decide +kernel
theorem dL_802 : decode code 802 = .ok (.iadd, 1) := by decide +kernel
theorem dL_803 : decode code 803 = .ok (.iaload, 1) := by decide +kernel
theorem dL_804 : decode code 804 = .ok (.aload_n 0, 1) := by decide +kernel
theorem dL_805 : decode code 805 = .ok (.iload_n 3, 1) := by decide +kernel
theorem dL_806 : decode code 806 = .ok (.iconst 3, 1) := by decide +kernel
theorem dL_807 : decode code 807 = .ok (.iadd, 1) := by decide +kernel
theorem dL_808 : decode code 808 = .ok (.iaload, 1) := by decide +kernel
theorem dL_809 : decode code 809 = .ok (.invokevirtual 111, 3) := by decide +kernel
theorem dL_812 : decode code 812 = .ok (.aload_n 2, 1) := by decide +kernel
theorem dL_813 : decode code 813 = .ok (.aload_n 0, 1) := by decide +kernel
theorem dL_814 : decode code 814 = .ok (.iload_n 3, 1) := by decide +kernel
theorem dL_815 : decode code 815 = .ok (.iconst 1, 1) := by decide +kernel
theorem dL_816 : decode code 816 = .ok (.iadd, 1) := by decide +kernel
theorem dL_817 : decode code 817 = .ok (.iaload, 1) := by decide +kernel
theorem dL_818 : decode code 818 = .ok (.aload_n 0, 1) := by decide +kernel
theorem dL_819 : decode code 819 = .ok (.iload_n 3, 1) := by decide +kernel
theorem dL_820 : decode code 820 = .ok (.iconst 2, 1) := by decide +kernel
theorem dL_821 : decode code 821 = .ok (.iadd, 1) := by decide +kernel
theorem dL_822 : decode code 822 = .ok (.iaload, 1) := by decide +kernel
theorem dL_823 : decode code 823 = .ok (.aload_n 0, 1) := by decide +kernel
theorem dL_824 : decode code 824 = .ok (.iload_n 3, 1) := by decide +kernel
theorem dL_825 : decode code 825 = .ok (.iconst 3, 1) := by decide +kernel
theorem dL_826 : decode code 826 = .ok (.iadd, 1) := by decide +kernel
theorem dL_827 : decode code 827 = .ok (.iaload, 1) := by decide +kernel
theorem dL_828 : decode code 828 = .ok (.invokevirtual 115, 3) := by decide +kernel
theorem dL_831 : decode code 831 = .ok (.if_icmp .eq 235, 3) := by decide +kernel
theorem dL_834 : decode code 834 = .ok (.iconst 0, 1) := by decide +kernel
theorem dL_835 : decode code 835 = .ok (.ireturn, 1) := by decide +kernel
theorem dL_836 : decode code 836 = .ok (.aload_n 1, 1) := by decide +kernel
theorem dL_837 : decode code 837 = .ok (.aload_n 0, 1) := by decide +kernel
theorem dL_838 : decode code 838 = .ok (.iload_n 3, 1) := by decide +kernel
theorem dL_839 : decode code 839 = .ok (.iconst 1, 1) := by decide +kernel
theorem dL_840 : decode code 840 = .ok (.iadd, 1) := by decide +kernel
theorem dL_841 : decode code 841 = .ok (.iaload, 1) := by decide +kernel
theorem dL_842 : decode code 842 = .ok (.invokevirtual 116, 3) := by decide +kernel
theorem dL_845 : decode code 845 = .ok (.aload_n 2, 1) := by decide +kernel
theorem dL_846 : decode code 846 = .ok (.aload_n 0, 1) := by decide +kernel
theorem dL_847 : decode code 847 = .ok (.iload_n 3, 1) := by decide +kernel
theorem dL_848 : decode code 848 = .ok (.iconst 1, 1) := by decide +kernel
theorem dL_849 : decode code 849 = .ok (.iadd, 1) := by decide +kernel
theorem dL_850 : decode code 850 = .ok (.iaload, 1) := by decide +kernel
theorem dL_851 : decode code 851 = .ok (.invokevirtual 119, 3) := by decide +kernel
theorem dL_854 : decode code 854 = .ok (.if_icmp .eq 212, 3) := by decide +kernel
theorem dL_857 : decode code 857 = .ok (.iconst 0, 1) := by decide +kernel
theorem dL_858 : decode code 858 = .ok (.ireturn, 1) := by decide +kernel
theorem dL_859 : decode code 859 = .ok (.aload_n 1, 1) := by decide +kernel
theorem dL_860 : decode code 860 = .ok (.aload_n 0, 1) := by decide +kernel
theorem dL_861 : decode code 861 = .ok (.iload_n 3, 1) := by decide +kernel
theorem dL_862 : decode code 862 = .ok (.iconst 1, 1) := by decide +kernel
theorem dL_863 : decode code 863 = .ok (.iadd, 1) := by decide +kernel
theorem dL_864 : decode code 864 = .ok (.iaload, 1) := by decide +kernel
theorem dL_865 : decode code 865 = .ok (.aload_n 0, 1) := by decide +kernel
theorem dL_866 : decode code 866 = .ok (.iload_n 3, 1) := by decide +kernel
theorem dL_867 : decode code 867 = .ok (.iconst 2, 1) := by decide +kernel
theorem dL_868 : decode code 868 = .ok (.iadd, 1) := by decide +kernel
theorem dL_869 : decode code 869 = .ok (.iaload, 1) := by decide +kernel
theorem dL_870 : decode code 870 = .ok (.invokevirtual 120, 3) := by decide +kernel
theorem dL_873 : decode code 873 = .ok (.aload_n 2, 1) := by decide +kernel
theorem dL_874 : decode code 874 = .ok (.aload_n 0, 1) := by decide +kernel
theorem dL_875 : decode code 875 = .ok (.iload_n 3, 1) := by decide +kernel
theorem dL_876 : decode code 876 = .ok (.iconst 1, 1) := by decide +kernel
theorem dL_877 : decode code 877 = .ok (.iadd, 1) := by decide +kernel
theorem dL_878 : decode code 878 = .ok (.iaload, 1) := by decide +kernel
theorem dL_879 : decode code 879 = .ok (.aload_n 0, 1) := by decide +kernel
theorem dL_880 : decode code 880 = .ok (.iload_n 3, 1) := by decide +kernel
theorem dL_881 : decode code 881 = .ok (.iconst 2, 1) := by decide +kernel
theorem dL_882 : decode code 882 = .ok (.iadd, 1) := by decide +kernel
theorem dL_883 : decode code 883 = .ok (.iaload, 1) := by decide +kernel
theorem dL_884 : decode code 884 = .ok (.invokevirtual 124, 3) := by decide +kernel
theorem dL_887 : decode code 887 = .ok (.if_icmp .eq 179, 3) := by decide +kernel
theorem dL_890 : decode code 890 = .ok (.iconst 0, 1) := by decide +kernel
theorem dL_891 : decode code 891 = .ok (.ireturn, 1) := by decide +kernel
theorem dL_892 : decode code 892 = .ok (.aload_n 1, 1) := by decide +kernel
theorem dL_893 : decode code 893 = .ok (.aload_n 0, 1) := by decide +kernel
theorem dL_894 : decode code 894 = .ok (.iload_n 3, 1) := by decide +kernel
theorem dL_895 : decode code 895 = .ok (.iconst 1, 1) := by decide +kernel
theorem dL_896 : decode code 896 = .ok (.iadd, 1) := by decide +kernel
theorem dL_897 : decode code 897 = .ok (.iaload, 1) := by decide +kernel
theorem dL_898 : decode code 898 = .ok (.aload_n 0, 1) := by decide +kernel
theorem dL_899 : decode code 899 = .ok (.iload_n 3, 1) := by decide +kernel
theorem dL_900 : decode code 900 = .ok (.iconst 2, 1) := by decide +kernel
theorem dL_901 : decode code 901 = .ok (.iadd, 1) := by decide +kernel
theorem dL_902 : decode code 902 = .ok (.iaload, 1) := by decide +kernel
theorem dL_903 : decode code 903 = .ok (.invokevirtual 125, 3) := by decide +kernel
theorem dL_906 : decode code 906 = .ok (.aload_n 2, 1) := by decide +kernel
theorem dL_907 : decode code 907 = .ok (.aload_n 0, 1) := by decide +kernel
theorem dL_908 : decode code 908 = .ok (.iload_n 3, 1) := by decide +kernel
theorem dL_909 : decode code 909 = .ok (.iconst 1, 1) := by decide +kernel
theorem dL_910 : decode code 910 = .ok (.iadd, 1) := by decide +kernel
theorem dL_911 : decode code 911 = .ok (.iaload, 1) := by decide +kernel
theorem dL_912 : decode code 912 = .ok (.aload_n 0, 1) := by decide +kernel
theorem dL_913 : decode code 913 = .ok (.iload_n 3, 1) := by decide +kernel
theorem dL_914 : decode code 914 = .ok (.iconst 2, 1) := by decide +kernel
theorem dL_915 : decode code 915 = .ok (.iadd, 1) := by decide +kernel
theorem dL_916 : decode code 916 = .ok (.iaload, 1) := by decide +kernel
theorem dL_917 : decode code 917 = .ok (.invokevirtual 128, 3) := by decide +kernel
theorem dL_920 : decode code 920 = .ok (.if_icmp .eq 146, 3) := by decide +kernel
theorem dL_923 : decode code 923 = .ok (.iconst 0, 1) := by decide +kernel
theorem dL_924 : decode code 924 = .ok (.ireturn, 1) := by decide +kernel
theorem dL_925 : decode code 925 = .ok (.aload_n 1, 1) := by decide +kernel
theorem dL_926 : decode code 926 = .ok (.invokevirtual 129, 3) := by decide +kernel
theorem dL_929 : decode code 929 = .ok (.aload_n 2, 1) := by decide +kernel
theorem dL_930 : decode code 930 = .ok (.invokevirtual 133, 3) := by decide +kernel
theorem dL_933 : decode code 933 = .ok (.if_icmp .eq 133, 3) := by decide +kernel
theorem dL_936 : decode code 936 = .ok (.iconst 0, 1) := by decide +kernel
theorem dL_937 : decode code 937 = .ok (.ireturn, 1) := by decide +kernel
theorem dL_938 : decode code 938 = .ok (.aload_n 1, 1) := by decide +kernel
theorem dL_939 : decode code 939 = .ok (.aload_n 0, 1) := by decide +kernel
theorem dL_940 : decode code 940 = .ok (.iload_n 3, 1) := by decide +kernel
theorem dL_941 : decode code 941 = .ok (.iconst 1, 1) := by decide +kernel
theorem dL_942 : decode code 942 = .ok (.iadd, 1) := by decide +kernel
theorem dL_943 : decode code 943 = .ok (.iaload, 1) := by decide +kernel
theorem dL_944 : decode code 944 = .ok (.invokevirtual 134, 3) := by decide +kernel
theorem dL_947 : decode code 947 = .ok (.aload_n 2, 1) := by decide +kernel
theorem dL_948 : decode code 948 = .ok (.aload_n 0, 1) := by decide +kernel
theorem dL_949 : decode code 949 = .ok (.iload_n 3, 1) := by decide +kernel
theorem dL_950 : decode code 950 = .ok (.iconst 1, 1) := by decide +kernel
theorem dL_951 : decode code 951 = .ok (.iadd, 1) := by decide +kernel
theorem dL_952 : decode code 952 = .ok (.iaload, 1) := by decide +kernel
theorem dL_953 : decode code 953 = .ok (.invokevirtual 137, 3) := by decide +kernel
theorem dL_956 : decode code 956 = .ok (.if_icmp .eq 110, 3) := by decide +kernel
theorem dL_959 : decode code 959 = .ok (.iconst 0, 1) := by decide +kernel
theorem dL_960 : decode code 960 = .ok (.ireturn, 1) := by decide +kernel
theorem dL_961 : decode code 961 = .ok (.aload_n 1, 1) := by decide +kernel
theorem dL_962 : decode code 962 = .ok (.aload_n 0, 1) := by decide +kernel
theorem dL_963 : decode code 963 = .ok (.iload_n 3, 1) := by decide +kernel
theorem dL_964 : decode code 964 = .ok (.iconst 1, 1) := by decide +kernel
theorem dL_965 : decode code 965 = .ok (.iadd, 1) := by decide +kernel
theorem dL_966 : decode code 966 = .ok (.iaload, 1) := by decide +kernel
theorem dL_967 : decode code 967 = .ok (.aload_n 0, 1) := by decide +kernel
theorem dL_968 : decode code 968 = .ok (.iload_n 3, 1) := by decide +kernel
theorem dL_969 : decode code 969 = .ok (.iconst 2, 1) := by decide +kernel
theorem dL_970 : decode code 970 = .ok (.iadd, 1) := by decide +kernel
theorem dL_971 : decode code 971 = .ok (.iaload, 1) := by decide +kernel
theorem dL_972 : decode code 972 = .ok (.invokevirtual 138, 3) := by decide +kernel
theorem dL_975 : decode code 975 = .ok (.aload_n 2, 1) := by decide +kernel
theorem dL_976 : decode code 976 = .ok (.aload_n 0, 1) := by decide +kernel
theorem dL_977 : decode code 977 = .ok (.iload_n 3, 1) := by decide +kernel
theorem dL_978 : decode code 978 = .ok (.iconst 1, 1) := by decide +kernel
theorem dL_979 : decode code 979 = .ok (.iadd, 1) := by decide +kernel
theorem dL_980 : decode code 980 = .ok (.iaload, 1) := by decide +kernel
theorem dL_981 : decode code 981 = .ok (.aload_n 0, 1) := by decide +kernel
theorem dL_982 : decode code 982 = .ok (.iload_n 3, 1) := by decide +kernel
theorem dL_983 : decode code 983 = .ok (.iconst 2, 1) := by decide +kernel
theorem dL_984 : decode code 984 = .ok (.iadd, 1) := by decide +kernel
theorem dL_985 : decode code 985 = .ok (.iaload, 1) := by decide +kernel
theorem dL_986 : decode code 986 = .ok (.invokevirtual 141, 3) := by decide +kernel
theorem dL_989 : decode code 989 = .ok (.if_icmp .eq 77, 3) := by decide +kernel
theorem dL_992 : decode code 992 = .ok (.iconst 0, 1) := by decide +kernel
theorem dL_993 : decode code 993 = .ok (.ireturn, 1) := by decide +kernel
theorem dL_994 : decode code 994 = .ok (.aload_n 1, 1) := by decide +kernel
theorem dL_995 : decode code 995 = .ok (.invokevirtual 142, 3) := by decide +kernel
theorem dL_998 : decode code 998 = .ok (.aload_n 2, 1) := by decide +kernel
theorem dL_999 : decode code 999 = .ok (.invokevirtual 145, 3) := by decide +kernel
theorem dL_1002 : decode code 1002 = .ok (.if_icmp .eq 64, 3) := by decide +kernel
theorem dL_1005 : decode code 1005 = .ok (.iconst 0, 1) := by decide +kernel
theorem dL_1006 : decode code 1006 = .ok (.ireturn, 1) := by decide +kernel
theorem dL_1007 : decode code 1007 = .ok (.aload_n 1, 1) := by decide +kernel
theorem dL_1008 : decode code 1008 = .ok (.aload_n 0, 1) := by decide +kernel
theorem dL_1009 : decode code 1009 = .ok (.iload_n 3, 1) := by decide +kernel
theorem dL_1010 : decode code 1010 = .ok (.iconst 1, 1) := by decide +kernel
theorem dL_1011 : decode code 1011 = .ok (.iadd, 1) := by decide +kernel
theorem dL_1012 : decode code 1012 = .ok (.iaload, 1) := by decide +kernel
theorem dL_1013 : decode code 1013 = .ok (.invokevirtual 146, 3) := by decide +kernel
theorem dL_1016 : decode code 1016 = .ok (.aload_n 2, 1) := by decide +kernel
theorem dL_1017 : decode code 1017 = .ok (.aload_n 0, 1) := by decide +kernel
theorem dL_1018 : decode code 1018 = .ok (.iload_n 3, 1) := by decide +kernel
theorem dL_1019 : decode code 1019 = .ok (.iconst 1, 1) := by decide +kernel
theorem dL_1020 : decode code 1020 = .ok (.iadd, 1) := by decide +kernel
theorem dL_1021 : decode code 1021 = .ok (.iaload, 1) := by decide +kernel
theorem dL_1022 : decode code 1022 = .ok (.invokevirtual 149, 3) := by decide +kernel
theorem dL_1025 : decode code 1025 = .ok (.if_icmp .eq 41, 3) := by decide +kernel
theorem dL_1028 : decode code 1028 = .ok (.iconst 0, 1) := by decide +kernel
theorem dL_1029 : decode code 1029 = .ok (.ireturn, 1) := by decide +kernel
theorem dL_1030 : decode code 1030 = .ok (.aload_n 1, 1) := by decide +kernel
theorem dL_1031 : decode code 1031 = .ok (.invokevirtual 150, 3) := by decide +kernel
theorem dL_1034 : decode code 1034 = .ok (.aload_n 2, 1) := by decide +kernel
theorem dL_1035 : decode code 1035 = .ok (.invokevirtual 153, 3) := by decide +kernel
theorem dL_1038 : decode code 1038 = .ok (.if_icmp .eq 28, 3) := by decide +kernel
theorem dL_1041 : decode code 1041 = .ok (.iconst 0, 1) := by decide +kernel
theorem dL_1042 : decode code 1042 = .ok (.ireturn, 1) := by decide +kernel
theorem dL_1043 : decode code 1043 = .ok (.aload_n 1, 1) := by decide +kernel
theorem dL_1044 : decode code 1044 = .ok (.aload_n 0, 1) := by decide +kernel
theorem dL_1045 : decode code 1045 = .ok (.iload_n 3, 1) := by decide +kernel
theorem dL_1046 : decode code 1046 = .ok (.iconst 1, 1) := by decide +kernel
theorem dL_1047 : decode code 1047 = .ok (.iadd, 1) := by decide +kernel
theorem dL_1048 : decode code 1048 = .ok (.iaload, 1) := by decide +kernel
theorem dL_1049 : decode code 1049 = .ok (.invokevirtual 154, 3) := by decide +kernel
theorem dL_1052 : decode code 1052 = .ok (.aload_n 2, 1) := by decide +kernel
theorem dL_1053 : decode code 1053 = .ok (.aload_n 0, 1) := by decide +kernel
theorem dL_1054 : decode code 1054 = .ok (.iload_n 3, 1) := by decide +kernel
theorem dL_1055 : decode code 1055 = .ok (.iconst 1, 1) := by decide +kernel
theorem dL_1056 : decode code 1056 = .ok (.iadd, 1) := by decide +kernel
theorem dL_1057 : decode code 1057 = .ok (.iaload, 1) := by decide +kernel
theorem dL_1058 : decode code 1058 = .ok (.invokevirtual 157, 3) := by decide +kernel
theorem dL_1061 : decode code 1061 = .ok (.if_icmp .eq 5, 3) := by decide +kernel
theorem dL_1064 : decode code 1064 = .ok (.iconst 0, 1) := by decide +kernel
theorem dL_1065 : decode code 1065 = .ok (.ireturn, 1) := by decide +kernel
theorem dL_1066 : decode code 1066 = .ok (.iinc 3 6, 3) := by decide +kernel
theorem dL_1069 : decode code 1069 = .ok (.goto (-1051), 3) := by decide +kernel
theorem dL_1072 : decode code 1072 = .ok (.iconst 1, 1) := by decide +kernel
theorem dL_1073 : decode code 1073 = .ok (.ireturn, 1) := by decide +kernel
def sx (xs : Nat → Int32) (i : Int) : Int := (xs i.toNat).toInt
/-- the law's own frame: the script at b, and its end -/
def LC (Y : YT) (X : CX) (b L : Nat) (xs : Nat → Int32) : Prop := match X with
  | (_, _, _, R, s, _, args, below, meth, _, Q, cl, sl) => va_X b L xs s s.heap ∧ b < s.heap.size ∧ (∀ q, Y.2.2.2 q → s.heap.size ≤ q) ∧ L ≤ 3072 ∧ R = room_1 ∧ args = #[Value.ref b] ∧ Q = lw_Z below #[Value.ref b] s ∧ cl = 600000 ∧ sl = 7302250 ∧ meth.sig.returnType = ret
abbrev LV (Y : YT) (b : Nat) (i : Int) : List (Nat × Value) := [(3, vI i), (2, vR Y 199), (1, vR Y 0), (0, .ref b)]
theorem iI_nat (n : Nat) : Int32.ofNat n = iI (n : Nat) := by
  unfold iI
  exact (Int32.ofInt_eq_ofNat (n := n)).symm
section LW
variable {Y : YT} {X : CX} {cc : ByteArray} {nL pc d b L : Nat} {own : String} {lv : List (Nat × Value)} {st : List Value} {M : Mem} {xs : Nat → Int32}
theorem g_sld {i : Int} (C : Cx Y X cc nL own d) (S : LC Y X b L xs) (hd : decode cc pc = .ok (.iaload, 1)) (hi : 0 ≤ i ∧ i < (L : Nat)) (k : G Y X nL (pc + 1) lv (vI (sx xs i) :: st) M) : G Y X nL pc lv (vI i :: .ref b :: st) M := by
  obtain ⟨p, l, e, R, s, m, args, below, meth, c, Q, cl, sl⟩ := X
  intro H locs ls hl hP hS
  have hL := S.2.2.2.1
  refine va_sld C.1 C.2.1 S.1 S.2.1 (fun q => absurd (S.2.2.1 _ q) (Nat.not_le.mpr S.2.1)) hS (iI_in hi (by omega)) hd ?_
  rw [iI_clamp hi.1 (by omega), ← iI_of (xs i.toNat)]
  exact k H locs ls hl hP hS
theorem g_slen (C : Cx Y X cc nL own d) (S : LC Y X b L xs) (hd : decode cc pc = .ok (.arraylength, 1)) (k : G Y X nL (pc + 1) lv (vI (L : Nat) :: st) M) : G Y X nL pc lv (.ref b :: st) M := by
  obtain ⟨p, l, e, R, s, m, args, below, meth, c, Q, cl, sl⟩ := X
  intro H locs ls hl hP hS
  refine va_slen C.1 C.2.1 S.1 S.2.1 (fun q => absurd (S.2.2.1 _ q) (Nat.not_le.mpr S.2.1)) hS hd ?_
  rw [iI_nat]
  exact k H locs ls hl hP hS
theorem g_aloadV {j : Fin 4} {i q a : Nat} (C : Cx Y X cc nL own d) (hd : decode cc pc = .ok (.aload_n j, 1)) (hi : (j : Nat) = i) (hq : lv[q]? = some (i, .ref a)) (k : G Y X nL (pc + 1) lv (.ref a :: st) M) : G Y X nL pc lv st M := by
  obtain ⟨p, l, e, R, s, m, args, below, meth, c, Q, cl, sl⟩ := X
  intro H locs ls hl hP hS
  exact lv_aload_n C.1 C.2.1 hd hi (lv_at hl q hq) (k H locs ls hl hP hS)
theorem g_arg (n : Int) {i : Int} (C : Cx Y X code 4 own d) (S : LC Y X b L xs) (h1 : decode code pc = .ok (.aload_n 0, 1)) (h2 : decode code (pc + 1) = .ok (.iload_n 3, 1)) (h3 : decode code (pc + 1 + 1) = .ok (.iconst n, 1)) (h4 : decode code (pc + 1 + 1 + 1) = .ok (.iadd, 1)) (h5 : decode code (pc + 1 + 1 + 1 + 1) = .ok (.iaload, 1)) (hi : 0 ≤ i + n ∧ i + n < (L : Nat)) (k : G Y X 4 (pc + 1 + 1 + 1 + 1 + 1) (LV Y b i) (vI (sx xs (i + n)) :: st) M) : G Y X 4 pc (LV Y b i) st M := by
  refine g_aloadV (q := 3) C h1 rfl rfl ?_
  refine g_iload_n (q := 0) C h2 rfl rfl ?_
  refine g_iconst C h3 rfl ?_
  refine g_iadd C h4 ?_
  exact g_sld C S h5 hi k
theorem g_end (C : Cx Y X code 4 own d) (S : LC Y X b L xs) : G Y X 4 1072 lv [] M := by
  refine g_iconst C dL_1072 rfl ?_
  obtain ⟨p, l, e, R, s, m, args, below, meth, c, Q, cl, sl⟩ := X
  intro H locs ls hl hP hS
  obtain ⟨S1, S2, S3, S4, rfl, rfl, rfl, rfl, rfl, S10⟩ := S
  exact va_forget (fun q hq => S3 _ (hS.2.2 q hq)) (lw_ret C.1 C.2.1 S10 C.2.2.2.2.2.2.2.2.2.2.2 dL_1073)

theorem law_0 {i : Int} {N : Nat} (C : Cx Y X code 4 "SilentReelLaw" 100) (S : LC Y X b L xs) (hi : Inv N M) (hN : N < 4000) (h0 : 0 ≤ i) (h5 : i + 5 < (L : Nat)) (hk : ∀ M2, Inv (N + 1) M2 → G Y X 4 1066 (LV Y b i) [] M2) : G Y X 4 184 (LV Y b i) [] M := by
  refine g_aload_n (q := 2) C dL_184 rfl rfl ?_
  refine g_arg 1 C S dL_185 dL_186 dL_187 dL_188 dL_189 (by omega) ?_
  refine g_arg 2 C S dL_190 dL_191 dL_192 dL_193 dL_194 (by omega) ?_
  refine g_arg 3 C S dL_195 dL_196 dL_197 dL_198 dL_199 (by omega) ?_
  refine g_arg 4 C S dL_200 dL_201 dL_202 dL_203 dL_204 (by omega) ?_
  refine g_arg 5 C S dL_205 dL_206 dL_207 dL_208 dL_209 (by omega) ?_
  refine g_cVi (As := [vI (sx xs (i + 1)), vI (sx xs (i + 2)), vI (sx xs (i + 3)), vI (sx xs (i + 4)), vI (sx xs (i + 5))]) C clL_13 clvX11_feed dL_210 kd_0 rfl (Nat.le_of_ble_eq_true rfl) rfl (by decide) (t_X11_feed (Cx.ok C) (s_feed hi)) (fun r1 M1 h1 => ?_)
  refine g_aload_n (q := 1) C dL_213 rfl rfl ?_
  refine g_arg 1 C S dL_214 dL_215 dL_216 dL_217 dL_218 (by omega) ?_
  refine g_arg 2 C S dL_219 dL_220 dL_221 dL_222 dL_223 (by omega) ?_
  refine g_arg 3 C S dL_224 dL_225 dL_226 dL_227 dL_228 (by omega) ?_
  refine g_arg 4 C S dL_229 dL_230 dL_231 dL_232 dL_233 (by omega) ?_
  refine g_arg 5 C S dL_234 dL_235 dL_236 dL_237 dL_238 (by omega) ?_
  refine g_cVi (As := [vI (sx xs (i + 1)), vI (sx xs (i + 2)), vI (sx xs (i + 3)), vI (sx xs (i + 4)), vI (sx xs (i + 5))]) C clL_17 clvX12_feed dL_239 kd_199 rfl (Nat.le_of_ble_eq_true rfl) rfl (by decide) (t_X12_feed (Cx.ok C) h1) (fun r2 M2 h2 => ?_)
  obtain ⟨g1, rfl, hI⟩ := h2
  exact g_icmp_eq (tgt := 1066) C dL_242 (by decide) g1 g1 (fun _ => hk M2 hI) (fun z => absurd rfl z)
theorem law_1 {i : Int} {N : Nat} (C : Cx Y X code 4 "SilentReelLaw" 100) (S : LC Y X b L xs) (hi : Inv N M) (hN : N < 4000) (h0 : 0 ≤ i) (h5 : i + 5 < (L : Nat)) (hk : ∀ M2, Inv (N + 1) M2 → G Y X 4 1066 (LV Y b i) [] M2) : G Y X 4 247 (LV Y b i) [] M := by
  refine g_aload_n (q := 2) C dL_247 rfl rfl ?_
  refine g_arg 1 C S dL_248 dL_249 dL_250 dL_251 dL_252 (by omega) ?_
  refine g_cVi (As := [vI (sx xs (i + 1))]) C clL_18 clvX11_end dL_253 kd_0 rfl (Nat.le_of_ble_eq_true rfl) rfl (by decide) (t_X11_end (Cx.ok C) (s_end hi (iI_rng _))) (fun r1 M1 h1 => ?_)
  refine g_aload_n (q := 1) C dL_256 rfl rfl ?_
  refine g_arg 1 C S dL_257 dL_258 dL_259 dL_260 dL_261 (by omega) ?_
  refine g_cVi (As := [vI (sx xs (i + 1))]) C clL_22 clvX12_end dL_262 kd_199 rfl (Nat.le_of_ble_eq_true rfl) rfl (by decide) (t_X12_end (Cx.ok C) h1) (fun r2 M2 h2 => ?_)
  obtain ⟨g1, rfl, hI⟩ := h2
  exact g_icmp_eq (tgt := 1066) C dL_265 (by decide) g1 g1 (fun _ => hk M2 hI) (fun z => absurd rfl z)
theorem law_2 {i : Int} {N : Nat} (C : Cx Y X code 4 "SilentReelLaw" 100) (S : LC Y X b L xs) (hi : Inv N M) (hN : N < 4000) (h0 : 0 ≤ i) (h5 : i + 5 < (L : Nat)) (hk : ∀ M2, Inv (N + 1) M2 → G Y X 4 1066 (LV Y b i) [] M2) : G Y X 4 270 (LV Y b i) [] M := by
  refine g_aload_n (q := 2) C dL_270 rfl rfl ?_
  refine g_cVi (As := []) C clL_23 clvX11_town dL_271 kd_0 rfl (Nat.le_of_ble_eq_true rfl) rfl (by decide) (t_X11_town (Cx.ok C) (s_town hi)) (fun r1 M1 h1 => ?_)
  refine g_aload_n (q := 1) C dL_274 rfl rfl ?_
  refine g_cVi (As := []) C clL_27 clvX12_town dL_275 kd_199 rfl (Nat.le_of_ble_eq_true rfl) rfl (by decide) (t_X12_town (Cx.ok C) h1) (fun r2 M2 h2 => ?_)
  obtain ⟨g1, rfl, hI⟩ := h2
  exact g_icmp_eq (tgt := 1066) C dL_278 (by decide) g1 g1 (fun _ => hk M2 hI) (fun z => absurd rfl z)
theorem law_3 {i : Int} {N : Nat} (C : Cx Y X code 4 "SilentReelLaw" 100) (S : LC Y X b L xs) (hi : Inv N M) (hN : N < 4000) (h0 : 0 ≤ i) (h5 : i + 5 < (L : Nat)) (hk : ∀ M2, Inv (N + 1) M2 → G Y X 4 1066 (LV Y b i) [] M2) : G Y X 4 283 (LV Y b i) [] M := by
  refine g_aload_n (q := 2) C dL_283 rfl rfl ?_
  refine g_arg 1 C S dL_284 dL_285 dL_286 dL_287 dL_288 (by omega) ?_
  refine g_cVi (As := [vI (sx xs (i + 1))]) C clL_28 clvX11_fault dL_289 kd_0 rfl (Nat.le_of_ble_eq_true rfl) rfl (by decide) (t_X11_fault (Cx.ok C) (s_fault hi (iI_rng _))) (fun r1 M1 h1 => ?_)
  refine g_aload_n (q := 1) C dL_292 rfl rfl ?_
  refine g_arg 1 C S dL_293 dL_294 dL_295 dL_296 dL_297 (by omega) ?_
  refine g_cVi (As := [vI (sx xs (i + 1))]) C clL_32 clvX12_fault dL_298 kd_199 rfl (Nat.le_of_ble_eq_true rfl) rfl (by decide) (t_X12_fault (Cx.ok C) h1) (fun r2 M2 h2 => ?_)
  obtain ⟨g1, rfl, hI⟩ := h2
  exact g_icmp_eq (tgt := 1066) C dL_301 (by decide) g1 g1 (fun _ => hk M2 hI) (fun z => absurd rfl z)
theorem law_4 {i : Int} {N : Nat} (C : Cx Y X code 4 "SilentReelLaw" 100) (S : LC Y X b L xs) (hi : Inv N M) (hN : N < 4000) (h0 : 0 ≤ i) (h5 : i + 5 < (L : Nat)) (hk : ∀ M2, Inv (N + 1) M2 → G Y X 4 1066 (LV Y b i) [] M2) : G Y X 4 306 (LV Y b i) [] M := by
  refine g_aload_n (q := 2) C dL_306 rfl rfl ?_
  refine g_arg 1 C S dL_307 dL_308 dL_309 dL_310 dL_311 (by omega) ?_
  refine g_cVi (As := [vI (sx xs (i + 1))]) C clL_33 clvX11_has dL_312 kd_0 rfl (Nat.le_of_ble_eq_true rfl) rfl (by decide) (t_X11_has (Cx.ok C) (s_has hi (iI_rng _))) (fun r1 M1 h1 => ?_)
  refine g_aload_n (q := 1) C dL_315 rfl rfl ?_
  refine g_arg 1 C S dL_316 dL_317 dL_318 dL_319 dL_320 (by omega) ?_
  refine g_cVi (As := [vI (sx xs (i + 1))]) C clL_36 clvX12_has dL_321 kd_199 rfl (Nat.le_of_ble_eq_true rfl) rfl (by decide) (t_X12_has (Cx.ok C) h1) (fun r2 M2 h2 => ?_)
  obtain ⟨g1, rfl, hI⟩ := h2
  exact g_icmp_eq (tgt := 1066) C dL_324 (by decide) g1 g1 (fun _ => hk M2 hI) (fun z => absurd rfl z)
theorem law_5 {i : Int} {N : Nat} (C : Cx Y X code 4 "SilentReelLaw" 100) (S : LC Y X b L xs) (hi : Inv N M) (hN : N < 4000) (h0 : 0 ≤ i) (h5 : i + 5 < (L : Nat)) (hk : ∀ M2, Inv (N + 1) M2 → G Y X 4 1066 (LV Y b i) [] M2) : G Y X 4 329 (LV Y b i) [] M := by
  refine g_aload_n (q := 2) C dL_329 rfl rfl ?_
  refine g_arg 1 C S dL_330 dL_331 dL_332 dL_333 dL_334 (by omega) ?_
  refine g_arg 2 C S dL_335 dL_336 dL_337 dL_338 dL_339 (by omega) ?_
  refine g_arg 3 C S dL_340 dL_341 dL_342 dL_343 dL_344 (by omega) ?_
  refine g_cVi (As := [vI (sx xs (i + 1)), vI (sx xs (i + 2)), vI (sx xs (i + 3))]) C clL_37 clvX11_letter dL_345 kd_0 rfl (Nat.le_of_ble_eq_true rfl) rfl (by decide) (t_X11_letter (Cx.ok C) (s_letter hi (iI_rng _) (iI_rng _) (iI_rng _))) (fun r1 M1 h1 => ?_)
  refine g_aload_n (q := 1) C dL_348 rfl rfl ?_
  refine g_arg 1 C S dL_349 dL_350 dL_351 dL_352 dL_353 (by omega) ?_
  refine g_arg 2 C S dL_354 dL_355 dL_356 dL_357 dL_358 (by omega) ?_
  refine g_arg 3 C S dL_359 dL_360 dL_361 dL_362 dL_363 (by omega) ?_
  refine g_cVi (As := [vI (sx xs (i + 1)), vI (sx xs (i + 2)), vI (sx xs (i + 3))]) C clL_41 clvX12_letter dL_364 kd_199 rfl (Nat.le_of_ble_eq_true rfl) rfl (by decide) (t_X12_letter (Cx.ok C) h1) (fun r2 M2 h2 => ?_)
  obtain ⟨g1, rfl, hI⟩ := h2
  exact g_icmp_eq (tgt := 1066) C dL_367 (by decide) g1 g1 (fun _ => hk M2 hI) (fun z => absurd rfl z)
theorem law_6 {i : Int} {N : Nat} (C : Cx Y X code 4 "SilentReelLaw" 100) (S : LC Y X b L xs) (hi : Inv N M) (hN : N < 4000) (h0 : 0 ≤ i) (h5 : i + 5 < (L : Nat)) (hk : ∀ M2, Inv (N + 1) M2 → G Y X 4 1066 (LV Y b i) [] M2) : G Y X 4 372 (LV Y b i) [] M := by
  refine g_aload_n (q := 2) C dL_372 rfl rfl ?_
  refine g_arg 1 C S dL_373 dL_374 dL_375 dL_376 dL_377 (by omega) ?_
  refine g_arg 2 C S dL_378 dL_379 dL_380 dL_381 dL_382 (by omega) ?_
  refine g_cVi (As := [vI (sx xs (i + 1)), vI (sx xs (i + 2))]) C clL_42 clvX11_far dL_383 kd_0 rfl (Nat.le_of_ble_eq_true rfl) rfl (by decide) (t_X11_far (Cx.ok C) (s_far hi (iI_rng _) (iI_rng _))) (fun r1 M1 h1 => ?_)
  refine g_aload_n (q := 1) C dL_386 rfl rfl ?_
  refine g_arg 1 C S dL_387 dL_388 dL_389 dL_390 dL_391 (by omega) ?_
  refine g_arg 2 C S dL_392 dL_393 dL_394 dL_395 dL_396 (by omega) ?_
  refine g_cVi (As := [vI (sx xs (i + 1)), vI (sx xs (i + 2))]) C clL_46 clvX12_far dL_397 kd_199 rfl (Nat.le_of_ble_eq_true rfl) rfl (by decide) (t_X12_far (Cx.ok C) h1) (fun r2 M2 h2 => ?_)
  obtain ⟨g1, rfl, hI⟩ := h2
  exact g_icmp_eq (tgt := 1066) C dL_400 (by decide) g1 g1 (fun _ => hk M2 hI) (fun z => absurd rfl z)
theorem law_7 {i : Int} {N : Nat} (C : Cx Y X code 4 "SilentReelLaw" 100) (S : LC Y X b L xs) (hi : Inv N M) (hN : N < 4000) (h0 : 0 ≤ i) (h5 : i + 5 < (L : Nat)) (hk : ∀ M2, Inv (N + 1) M2 → G Y X 4 1066 (LV Y b i) [] M2) : G Y X 4 405 (LV Y b i) [] M := by
  refine g_aload_n (q := 2) C dL_405 rfl rfl ?_
  refine g_arg 1 C S dL_406 dL_407 dL_408 dL_409 dL_410 (by omega) ?_
  refine g_arg 2 C S dL_411 dL_412 dL_413 dL_414 dL_415 (by omega) ?_
  refine g_cVi (As := [vI (sx xs (i + 1)), vI (sx xs (i + 2))]) C clL_47 clvX11_person dL_416 kd_0 rfl (Nat.le_of_ble_eq_true rfl) rfl (by decide) (t_X11_person (Cx.ok C) (s_person hi (iI_rng _) (iI_rng _))) (fun r1 M1 h1 => ?_)
  refine g_aload_n (q := 1) C dL_419 rfl rfl ?_
  refine g_arg 1 C S dL_420 dL_421 dL_422 dL_423 dL_424 (by omega) ?_
  refine g_arg 2 C S dL_425 dL_426 dL_427 dL_428 dL_429 (by omega) ?_
  refine g_cVi (As := [vI (sx xs (i + 1)), vI (sx xs (i + 2))]) C clL_50 clvX12_person dL_430 kd_199 rfl (Nat.le_of_ble_eq_true rfl) rfl (by decide) (t_X12_person (Cx.ok C) h1) (fun r2 M2 h2 => ?_)
  obtain ⟨g1, rfl, hI⟩ := h2
  exact g_icmp_eq (tgt := 1066) C dL_433 (by decide) g1 g1 (fun _ => hk M2 hI) (fun z => absurd rfl z)
theorem law_8 {i : Int} {N : Nat} (C : Cx Y X code 4 "SilentReelLaw" 100) (S : LC Y X b L xs) (hi : Inv N M) (hN : N < 4000) (h0 : 0 ≤ i) (h5 : i + 5 < (L : Nat)) (hk : ∀ M2, Inv (N + 1) M2 → G Y X 4 1066 (LV Y b i) [] M2) : G Y X 4 438 (LV Y b i) [] M := by
  refine g_aload_n (q := 2) C dL_438 rfl rfl ?_
  refine g_arg 1 C S dL_439 dL_440 dL_441 dL_442 dL_443 (by omega) ?_
  refine g_arg 2 C S dL_444 dL_445 dL_446 dL_447 dL_448 (by omega) ?_
  refine g_cVi (As := [vI (sx xs (i + 1)), vI (sx xs (i + 2))]) C clL_51 clvX11_frame dL_449 kd_0 rfl (Nat.le_of_ble_eq_true rfl) rfl (by decide) (t_X11_frame (Cx.ok C) (s_frame hi (iI_rng _) (iI_rng _))) (fun r1 M1 h1 => ?_)
  refine g_aload_n (q := 1) C dL_452 rfl rfl ?_
  refine g_arg 1 C S dL_453 dL_454 dL_455 dL_456 dL_457 (by omega) ?_
  refine g_arg 2 C S dL_458 dL_459 dL_460 dL_461 dL_462 (by omega) ?_
  refine g_cVi (As := [vI (sx xs (i + 1)), vI (sx xs (i + 2))]) C clL_54 clvX12_frame dL_463 kd_199 rfl (Nat.le_of_ble_eq_true rfl) rfl (by decide) (t_X12_frame (Cx.ok C) h1) (fun r2 M2 h2 => ?_)
  obtain ⟨g1, rfl, hI⟩ := h2
  exact g_icmp_eq (tgt := 1066) C dL_466 (by decide) g1 g1 (fun _ => hk M2 hI) (fun z => absurd rfl z)
theorem law_9 {i : Int} {N : Nat} (C : Cx Y X code 4 "SilentReelLaw" 100) (S : LC Y X b L xs) (hi : Inv N M) (hN : N < 4000) (h0 : 0 ≤ i) (h5 : i + 5 < (L : Nat)) (hk : ∀ M2, Inv (N + 1) M2 → G Y X 4 1066 (LV Y b i) [] M2) : G Y X 4 471 (LV Y b i) [] M := by
  refine g_aload_n (q := 2) C dL_471 rfl rfl ?_
  refine g_arg 1 C S dL_472 dL_473 dL_474 dL_475 dL_476 (by omega) ?_
  refine g_arg 2 C S dL_477 dL_478 dL_479 dL_480 dL_481 (by omega) ?_
  refine g_cVi (As := [vI (sx xs (i + 1)), vI (sx xs (i + 2))]) C clL_55 clvX11_where dL_482 kd_0 rfl (Nat.le_of_ble_eq_true rfl) rfl (by decide) (t_X11_where (Cx.ok C) (s_where hi (iI_rng _) (iI_rng _))) (fun r1 M1 h1 => ?_)
  refine g_aload_n (q := 1) C dL_485 rfl rfl ?_
  refine g_arg 1 C S dL_486 dL_487 dL_488 dL_489 dL_490 (by omega) ?_
  refine g_arg 2 C S dL_491 dL_492 dL_493 dL_494 dL_495 (by omega) ?_
  refine g_cVi (As := [vI (sx xs (i + 1)), vI (sx xs (i + 2))]) C clL_58 clvX12_where dL_496 kd_199 rfl (Nat.le_of_ble_eq_true rfl) rfl (by decide) (t_X12_where (Cx.ok C) h1) (fun r2 M2 h2 => ?_)
  obtain ⟨g1, rfl, hI⟩ := h2
  exact g_icmp_eq (tgt := 1066) C dL_499 (by decide) g1 g1 (fun _ => hk M2 hI) (fun z => absurd rfl z)
theorem law_10 {i : Int} {N : Nat} (C : Cx Y X code 4 "SilentReelLaw" 100) (S : LC Y X b L xs) (hi : Inv N M) (hN : N < 4000) (h0 : 0 ≤ i) (h5 : i + 5 < (L : Nat)) (hk : ∀ M2, Inv (N + 1) M2 → G Y X 4 1066 (LV Y b i) [] M2) : G Y X 4 504 (LV Y b i) [] M := by
  refine g_aload_n (q := 2) C dL_504 rfl rfl ?_
  refine g_arg 1 C S dL_505 dL_506 dL_507 dL_508 dL_509 (by omega) ?_
  refine g_arg 2 C S dL_510 dL_511 dL_512 dL_513 dL_514 (by omega) ?_
  refine g_cVi (As := [vI (sx xs (i + 1)), vI (sx xs (i + 2))]) C clL_59 clvX11_who dL_515 kd_0 rfl (Nat.le_of_ble_eq_true rfl) rfl (by decide) (t_X11_who (Cx.ok C) (s_who hi (iI_rng _) (iI_rng _))) (fun r1 M1 h1 => ?_)
  refine g_aload_n (q := 1) C dL_518 rfl rfl ?_
  refine g_arg 1 C S dL_519 dL_520 dL_521 dL_522 dL_523 (by omega) ?_
  refine g_arg 2 C S dL_524 dL_525 dL_526 dL_527 dL_528 (by omega) ?_
  refine g_cVi (As := [vI (sx xs (i + 1)), vI (sx xs (i + 2))]) C clL_62 clvX12_who dL_529 kd_199 rfl (Nat.le_of_ble_eq_true rfl) rfl (by decide) (t_X12_who (Cx.ok C) h1) (fun r2 M2 h2 => ?_)
  obtain ⟨g1, rfl, hI⟩ := h2
  exact g_icmp_eq (tgt := 1066) C dL_532 (by decide) g1 g1 (fun _ => hk M2 hI) (fun z => absurd rfl z)
theorem law_11 {i : Int} {N : Nat} (C : Cx Y X code 4 "SilentReelLaw" 100) (S : LC Y X b L xs) (hi : Inv N M) (hN : N < 4000) (h0 : 0 ≤ i) (h5 : i + 5 < (L : Nat)) (hk : ∀ M2, Inv (N + 1) M2 → G Y X 4 1066 (LV Y b i) [] M2) : G Y X 4 537 (LV Y b i) [] M := by
  refine g_aload_n (q := 2) C dL_537 rfl rfl ?_
  refine g_cVi (As := []) C clL_63 clvX11_agrees dL_538 kd_0 rfl (Nat.le_of_ble_eq_true rfl) rfl (by decide) (t_X11_agrees (Cx.ok C) (s_agrees hi)) (fun r1 M1 h1 => ?_)
  refine g_aload_n (q := 1) C dL_541 rfl rfl ?_
  refine g_cVi (As := []) C clL_66 clvX12_agrees dL_542 kd_199 rfl (Nat.le_of_ble_eq_true rfl) rfl (by decide) (t_X12_agrees (Cx.ok C) h1) (fun r2 M2 h2 => ?_)
  obtain ⟨g1, rfl, hI⟩ := h2
  exact g_icmp_eq (tgt := 1066) C dL_545 (by decide) g1 g1 (fun _ => hk M2 hI) (fun z => absurd rfl z)
theorem law_12 {i : Int} {N : Nat} (C : Cx Y X code 4 "SilentReelLaw" 100) (S : LC Y X b L xs) (hi : Inv N M) (hN : N < 4000) (h0 : 0 ≤ i) (h5 : i + 5 < (L : Nat)) (hk : ∀ M2, Inv (N + 1) M2 → G Y X 4 1066 (LV Y b i) [] M2) : G Y X 4 550 (LV Y b i) [] M := by
  refine g_aload_n (q := 2) C dL_550 rfl rfl ?_
  refine g_arg 1 C S dL_551 dL_552 dL_553 dL_554 dL_555 (by omega) ?_
  refine g_arg 2 C S dL_556 dL_557 dL_558 dL_559 dL_560 (by omega) ?_
  refine g_cVi (As := [vI (sx xs (i + 1)), vI (sx xs (i + 2))]) C clL_67 clvX11_self dL_561 kd_0 rfl (Nat.le_of_ble_eq_true rfl) rfl (by decide) (t_X11_self (Cx.ok C) (s_self hi (iI_rng _) (iI_rng _))) (fun r1 M1 h1 => ?_)
  refine g_aload_n (q := 1) C dL_564 rfl rfl ?_
  refine g_arg 1 C S dL_565 dL_566 dL_567 dL_568 dL_569 (by omega) ?_
  refine g_arg 2 C S dL_570 dL_571 dL_572 dL_573 dL_574 (by omega) ?_
  refine g_cVi (As := [vI (sx xs (i + 1)), vI (sx xs (i + 2))]) C clL_70 clvX12_self dL_575 kd_199 rfl (Nat.le_of_ble_eq_true rfl) rfl (by decide) (t_X12_self (Cx.ok C) h1) (fun r2 M2 h2 => ?_)
  obtain ⟨g1, rfl, hI⟩ := h2
  exact g_icmp_eq (tgt := 1066) C dL_578 (by decide) g1 g1 (fun _ => hk M2 hI) (fun z => absurd rfl z)
theorem law_13 {i : Int} {N : Nat} (C : Cx Y X code 4 "SilentReelLaw" 100) (S : LC Y X b L xs) (hi : Inv N M) (hN : N < 4000) (h0 : 0 ≤ i) (h5 : i + 5 < (L : Nat)) (hk : ∀ M2, Inv (N + 1) M2 → G Y X 4 1066 (LV Y b i) [] M2) : G Y X 4 583 (LV Y b i) [] M := by
  refine g_aload_n (q := 2) C dL_583 rfl rfl ?_
  refine g_cVi (As := []) C clL_71 clvX11_cuts dL_584 kd_0 rfl (Nat.le_of_ble_eq_true rfl) rfl (by decide) (t_X11_cuts (Cx.ok C) (s_cuts hi)) (fun r1 M1 h1 => ?_)
  refine g_aload_n (q := 1) C dL_587 rfl rfl ?_
  refine g_cVi (As := []) C clL_74 clvX12_cuts dL_588 kd_199 rfl (Nat.le_of_ble_eq_true rfl) rfl (by decide) (t_X12_cuts (Cx.ok C) h1) (fun r2 M2 h2 => ?_)
  obtain ⟨g1, rfl, hI⟩ := h2
  exact g_icmp_eq (tgt := 1066) C dL_591 (by decide) g1 g1 (fun _ => hk M2 hI) (fun z => absurd rfl z)
theorem law_14 {i : Int} {N : Nat} (C : Cx Y X code 4 "SilentReelLaw" 100) (S : LC Y X b L xs) (hi : Inv N M) (hN : N < 4000) (h0 : 0 ≤ i) (h5 : i + 5 < (L : Nat)) (hk : ∀ M2, Inv (N + 1) M2 → G Y X 4 1066 (LV Y b i) [] M2) : G Y X 4 596 (LV Y b i) [] M := by
  refine g_aload_n (q := 2) C dL_596 rfl rfl ?_
  refine g_cVi (As := []) C clL_75 clvX11_crowd dL_597 kd_0 rfl (Nat.le_of_ble_eq_true rfl) rfl (by decide) (t_X11_crowd (Cx.ok C) (s_crowd hi)) (fun r1 M1 h1 => ?_)
  refine g_aload_n (q := 1) C dL_600 rfl rfl ?_
  refine g_cVi (As := []) C clL_78 clvX12_crowd dL_601 kd_199 rfl (Nat.le_of_ble_eq_true rfl) rfl (by decide) (t_X12_crowd (Cx.ok C) h1) (fun r2 M2 h2 => ?_)
  obtain ⟨g1, rfl, hI⟩ := h2
  exact g_icmp_eq (tgt := 1066) C dL_604 (by decide) g1 g1 (fun _ => hk M2 hI) (fun z => absurd rfl z)
theorem law_15 {i : Int} {N : Nat} (C : Cx Y X code 4 "SilentReelLaw" 100) (S : LC Y X b L xs) (hi : Inv N M) (hN : N < 4000) (h0 : 0 ≤ i) (h5 : i + 5 < (L : Nat)) (hk : ∀ M2, Inv (N + 1) M2 → G Y X 4 1066 (LV Y b i) [] M2) : G Y X 4 609 (LV Y b i) [] M := by
  refine g_aload_n (q := 2) C dL_609 rfl rfl ?_
  refine g_cVi (As := []) C clL_79 clvX11_empty dL_610 kd_0 rfl (Nat.le_of_ble_eq_true rfl) rfl (by decide) (t_X11_empty (Cx.ok C) (s_empty hi)) (fun r1 M1 h1 => ?_)
  refine g_aload_n (q := 1) C dL_613 rfl rfl ?_
  refine g_cVi (As := []) C clL_82 clvX12_empty dL_614 kd_199 rfl (Nat.le_of_ble_eq_true rfl) rfl (by decide) (t_X12_empty (Cx.ok C) h1) (fun r2 M2 h2 => ?_)
  obtain ⟨g1, rfl, hI⟩ := h2
  exact g_icmp_eq (tgt := 1066) C dL_617 (by decide) g1 g1 (fun _ => hk M2 hI) (fun z => absurd rfl z)
theorem law_16 {i : Int} {N : Nat} (C : Cx Y X code 4 "SilentReelLaw" 100) (S : LC Y X b L xs) (hi : Inv N M) (hN : N < 4000) (h0 : 0 ≤ i) (h5 : i + 5 < (L : Nat)) (hk : ∀ M2, Inv (N + 1) M2 → G Y X 4 1066 (LV Y b i) [] M2) : G Y X 4 622 (LV Y b i) [] M := by
  refine g_aload_n (q := 2) C dL_622 rfl rfl ?_
  refine g_arg 1 C S dL_623 dL_624 dL_625 dL_626 dL_627 (by omega) ?_
  refine g_arg 2 C S dL_628 dL_629 dL_630 dL_631 dL_632 (by omega) ?_
  refine g_cVi (As := [vI (sx xs (i + 1)), vI (sx xs (i + 2))]) C clL_83 clvX11_later dL_633 kd_0 rfl (Nat.le_of_ble_eq_true rfl) rfl (by decide) (t_X11_later (Cx.ok C) (s_later hi (iI_rng _) (iI_rng _))) (fun r1 M1 h1 => ?_)
  refine g_aload_n (q := 1) C dL_636 rfl rfl ?_
  refine g_arg 1 C S dL_637 dL_638 dL_639 dL_640 dL_641 (by omega) ?_
  refine g_arg 2 C S dL_642 dL_643 dL_644 dL_645 dL_646 (by omega) ?_
  refine g_cVi (As := [vI (sx xs (i + 1)), vI (sx xs (i + 2))]) C clL_86 clvX12_later dL_647 kd_199 rfl (Nat.le_of_ble_eq_true rfl) rfl (by decide) (t_X12_later (Cx.ok C) h1) (fun r2 M2 h2 => ?_)
  obtain ⟨g1, rfl, hI⟩ := h2
  exact g_icmp_eq (tgt := 1066) C dL_650 (by decide) g1 g1 (fun _ => hk M2 hI) (fun z => absurd rfl z)
theorem law_17 {i : Int} {N : Nat} (C : Cx Y X code 4 "SilentReelLaw" 100) (S : LC Y X b L xs) (hi : Inv N M) (hN : N < 4000) (h0 : 0 ≤ i) (h5 : i + 5 < (L : Nat)) (hk : ∀ M2, Inv (N + 1) M2 → G Y X 4 1066 (LV Y b i) [] M2) : G Y X 4 655 (LV Y b i) [] M := by
  refine g_aload_n (q := 2) C dL_655 rfl rfl ?_
  refine g_arg 1 C S dL_656 dL_657 dL_658 dL_659 dL_660 (by omega) ?_
  refine g_arg 2 C S dL_661 dL_662 dL_663 dL_664 dL_665 (by omega) ?_
  refine g_cVi (As := [vI (sx xs (i + 1)), vI (sx xs (i + 2))]) C clL_87 clvX11_meet dL_666 kd_0 rfl (Nat.le_of_ble_eq_true rfl) rfl (by decide) (t_X11_meet (Cx.ok C) (s_meet hi (iI_rng _) (iI_rng _))) (fun r1 M1 h1 => ?_)
  refine g_aload_n (q := 1) C dL_669 rfl rfl ?_
  refine g_arg 1 C S dL_670 dL_671 dL_672 dL_673 dL_674 (by omega) ?_
  refine g_arg 2 C S dL_675 dL_676 dL_677 dL_678 dL_679 (by omega) ?_
  refine g_cVi (As := [vI (sx xs (i + 1)), vI (sx xs (i + 2))]) C clL_90 clvX12_meet dL_680 kd_199 rfl (Nat.le_of_ble_eq_true rfl) rfl (by decide) (t_X12_meet (Cx.ok C) h1) (fun r2 M2 h2 => ?_)
  obtain ⟨g1, rfl, hI⟩ := h2
  exact g_icmp_eq (tgt := 1066) C dL_683 (by decide) g1 g1 (fun _ => hk M2 hI) (fun z => absurd rfl z)
theorem law_18 {i : Int} {N : Nat} (C : Cx Y X code 4 "SilentReelLaw" 100) (S : LC Y X b L xs) (hi : Inv N M) (hN : N < 4000) (h0 : 0 ≤ i) (h5 : i + 5 < (L : Nat)) (hk : ∀ M2, Inv (N + 1) M2 → G Y X 4 1066 (LV Y b i) [] M2) : G Y X 4 688 (LV Y b i) [] M := by
  refine g_aload_n (q := 2) C dL_688 rfl rfl ?_
  refine g_cVi (As := []) C clL_91 clvX11_round dL_689 kd_0 rfl (Nat.le_of_ble_eq_true rfl) rfl (by decide) (t_X11_round (Cx.ok C) (s_round hi)) (fun r1 M1 h1 => ?_)
  refine g_aload_n (q := 1) C dL_692 rfl rfl ?_
  refine g_cVi (As := []) C clL_94 clvX12_round dL_693 kd_199 rfl (Nat.le_of_ble_eq_true rfl) rfl (by decide) (t_X12_round (Cx.ok C) h1) (fun r2 M2 h2 => ?_)
  obtain ⟨g1, rfl, hI⟩ := h2
  exact g_icmp_eq (tgt := 1066) C dL_696 (by decide) g1 g1 (fun _ => hk M2 hI) (fun z => absurd rfl z)
theorem law_19 {i : Int} {N : Nat} (C : Cx Y X code 4 "SilentReelLaw" 100) (S : LC Y X b L xs) (hi : Inv N M) (hN : N < 4000) (h0 : 0 ≤ i) (h5 : i + 5 < (L : Nat)) (hk : ∀ M2, Inv (N + 1) M2 → G Y X 4 1066 (LV Y b i) [] M2) : G Y X 4 701 (LV Y b i) [] M := by
  refine g_aload_n (q := 2) C dL_701 rfl rfl ?_
  refine g_cVi (As := []) C clL_95 clvX11_see dL_702 kd_0 rfl (Nat.le_of_ble_eq_true rfl) rfl (by decide) (t_X11_see (Cx.ok C) (s_see hi)) (fun r1 M1 h1 => ?_)
  refine g_aload_n (q := 1) C dL_705 rfl rfl ?_
  refine g_cVi (As := []) C clL_98 clvX12_see dL_706 kd_199 rfl (Nat.le_of_ble_eq_true rfl) rfl (by decide) (t_X12_see (Cx.ok C) h1) (fun r2 M2 h2 => ?_)
  obtain ⟨g1, rfl, hI⟩ := h2
  exact g_icmp_eq (tgt := 1066) C dL_709 (by decide) g1 g1 (fun _ => hk M2 hI) (fun z => absurd rfl z)
theorem law_20 {i : Int} {N : Nat} (C : Cx Y X code 4 "SilentReelLaw" 100) (S : LC Y X b L xs) (hi : Inv N M) (hN : N < 4000) (h0 : 0 ≤ i) (h5 : i + 5 < (L : Nat)) (hk : ∀ M2, Inv (N + 1) M2 → G Y X 4 1066 (LV Y b i) [] M2) : G Y X 4 714 (LV Y b i) [] M := by
  refine g_aload_n (q := 2) C dL_714 rfl rfl ?_
  refine g_arg 1 C S dL_715 dL_716 dL_717 dL_718 dL_719 (by omega) ?_
  refine g_arg 2 C S dL_720 dL_721 dL_722 dL_723 dL_724 (by omega) ?_
  refine g_cVi (As := [vI (sx xs (i + 1)), vI (sx xs (i + 2))]) C clL_99 clvX11_began dL_725 kd_0 rfl (Nat.le_of_ble_eq_true rfl) rfl (by decide) (t_X11_began (Cx.ok C) (s_began hi (iI_rng _) (iI_rng _))) (fun r1 M1 h1 => ?_)
  refine g_aload_n (q := 1) C dL_728 rfl rfl ?_
  refine g_arg 1 C S dL_729 dL_730 dL_731 dL_732 dL_733 (by omega) ?_
  refine g_arg 2 C S dL_734 dL_735 dL_736 dL_737 dL_738 (by omega) ?_
  refine g_cVi (As := [vI (sx xs (i + 1)), vI (sx xs (i + 2))]) C clL_102 clvX12_began dL_739 kd_199 rfl (Nat.le_of_ble_eq_true rfl) rfl (by decide) (t_X12_began (Cx.ok C) h1) (fun r2 M2 h2 => ?_)
  obtain ⟨g1, rfl, hI⟩ := h2
  exact g_icmp_eq (tgt := 1066) C dL_742 (by decide) g1 g1 (fun _ => hk M2 hI) (fun z => absurd rfl z)
theorem law_21 {i : Int} {N : Nat} (C : Cx Y X code 4 "SilentReelLaw" 100) (S : LC Y X b L xs) (hi : Inv N M) (hN : N < 4000) (h0 : 0 ≤ i) (h5 : i + 5 < (L : Nat)) (hk : ∀ M2, Inv (N + 1) M2 → G Y X 4 1066 (LV Y b i) [] M2) : G Y X 4 747 (LV Y b i) [] M := by
  refine g_aload_n (q := 2) C dL_747 rfl rfl ?_
  refine g_arg 1 C S dL_748 dL_749 dL_750 dL_751 dL_752 (by omega) ?_
  refine g_cVi (As := [vI (sx xs (i + 1))]) C clL_103 clvX11_days dL_753 kd_0 rfl (Nat.le_of_ble_eq_true rfl) rfl (by decide) (t_X11_days (Cx.ok C) (s_days hi (iI_rng _))) (fun r1 M1 h1 => ?_)
  refine g_aload_n (q := 1) C dL_756 rfl rfl ?_
  refine g_arg 1 C S dL_757 dL_758 dL_759 dL_760 dL_761 (by omega) ?_
  refine g_cVi (As := [vI (sx xs (i + 1))]) C clL_106 clvX12_days dL_762 kd_199 rfl (Nat.le_of_ble_eq_true rfl) rfl (by decide) (t_X12_days (Cx.ok C) h1) (fun r2 M2 h2 => ?_)
  obtain ⟨g1, rfl, hI⟩ := h2
  exact g_icmp_eq (tgt := 1066) C dL_765 (by decide) g1 g1 (fun _ => hk M2 hI) (fun z => absurd rfl z)
theorem law_22 {i : Int} {N : Nat} (C : Cx Y X code 4 "SilentReelLaw" 100) (S : LC Y X b L xs) (hi : Inv N M) (hN : N < 4000) (h0 : 0 ≤ i) (h5 : i + 5 < (L : Nat)) (hk : ∀ M2, Inv (N + 1) M2 → G Y X 4 1066 (LV Y b i) [] M2) : G Y X 4 770 (LV Y b i) [] M := by
  refine g_aload_n (q := 2) C dL_770 rfl rfl ?_
  refine g_arg 1 C S dL_771 dL_772 dL_773 dL_774 dL_775 (by omega) ?_
  refine g_cVi (As := [vI (sx xs (i + 1))]) C clL_107 clvX11_chance dL_776 kd_0 rfl (Nat.le_of_ble_eq_true rfl) rfl (by decide) (t_X11_chance (Cx.ok C) (s_chance hi (iI_rng _))) (fun r1 M1 h1 => ?_)
  refine g_aload_n (q := 1) C dL_779 rfl rfl ?_
  refine g_arg 1 C S dL_780 dL_781 dL_782 dL_783 dL_784 (by omega) ?_
  refine g_cVi (As := [vI (sx xs (i + 1))]) C clL_110 clvX12_chance dL_785 kd_199 rfl (Nat.le_of_ble_eq_true rfl) rfl (by decide) (t_X12_chance (Cx.ok C) h1) (fun r2 M2 h2 => ?_)
  obtain ⟨g1, rfl, hI⟩ := h2
  exact g_icmp_eq (tgt := 1066) C dL_788 (by decide) g1 g1 (fun _ => hk M2 hI) (fun z => absurd rfl z)
theorem law_23 {i : Int} {N : Nat} (C : Cx Y X code 4 "SilentReelLaw" 100) (S : LC Y X b L xs) (hi : Inv N M) (hN : N < 4000) (h0 : 0 ≤ i) (h5 : i + 5 < (L : Nat)) (hk : ∀ M2, Inv (N + 1) M2 → G Y X 4 1066 (LV Y b i) [] M2) : G Y X 4 793 (LV Y b i) [] M := by
  refine g_aload_n (q := 2) C dL_793 rfl rfl ?_
  refine g_arg 1 C S dL_794 dL_795 dL_796 dL_797 dL_798 (by omega) ?_
  refine g_arg 2 C S dL_799 dL_800 dL_801 dL_802 dL_803 (by omega) ?_
  refine g_arg 3 C S dL_804 dL_805 dL_806 dL_807 dL_808 (by omega) ?_
  refine g_cVi (As := [vI (sx xs (i + 1)), vI (sx xs (i + 2)), vI (sx xs (i + 3))]) C clL_111 clvX11_show dL_809 kd_0 rfl (Nat.le_of_ble_eq_true rfl) rfl (by decide) (t_X11_show (Cx.ok C) (s_show hi (iI_rng _) (iI_rng _) (iI_rng _))) (fun r1 M1 h1 => ?_)
  refine g_aload_n (q := 1) C dL_812 rfl rfl ?_
  refine g_arg 1 C S dL_813 dL_814 dL_815 dL_816 dL_817 (by omega) ?_
  refine g_arg 2 C S dL_818 dL_819 dL_820 dL_821 dL_822 (by omega) ?_
  refine g_arg 3 C S dL_823 dL_824 dL_825 dL_826 dL_827 (by omega) ?_
  refine g_cVi (As := [vI (sx xs (i + 1)), vI (sx xs (i + 2)), vI (sx xs (i + 3))]) C clL_115 clvX12_show dL_828 kd_199 rfl (Nat.le_of_ble_eq_true rfl) rfl (by decide) (t_X12_show (Cx.ok C) h1) (fun r2 M2 h2 => ?_)
  obtain ⟨g1, rfl, hI⟩ := h2
  exact g_icmp_eq (tgt := 1066) C dL_831 (by decide) g1 g1 (fun _ => hk M2 hI) (fun z => absurd rfl z)
theorem law_24 {i : Int} {N : Nat} (C : Cx Y X code 4 "SilentReelLaw" 100) (S : LC Y X b L xs) (hi : Inv N M) (hN : N < 4000) (h0 : 0 ≤ i) (h5 : i + 5 < (L : Nat)) (hk : ∀ M2, Inv (N + 1) M2 → G Y X 4 1066 (LV Y b i) [] M2) : G Y X 4 836 (LV Y b i) [] M := by
  refine g_aload_n (q := 2) C dL_836 rfl rfl ?_
  refine g_arg 1 C S dL_837 dL_838 dL_839 dL_840 dL_841 (by omega) ?_
  refine g_cVi (As := [vI (sx xs (i + 1))]) C clL_116 clvX11_cut dL_842 kd_0 rfl (Nat.le_of_ble_eq_true rfl) rfl (by decide) (t_X11_cut (Cx.ok C) (s_cut hi (iI_rng _))) (fun r1 M1 h1 => ?_)
  refine g_aload_n (q := 1) C dL_845 rfl rfl ?_
  refine g_arg 1 C S dL_846 dL_847 dL_848 dL_849 dL_850 (by omega) ?_
  refine g_cVi (As := [vI (sx xs (i + 1))]) C clL_119 clvX12_cut dL_851 kd_199 rfl (Nat.le_of_ble_eq_true rfl) rfl (by decide) (t_X12_cut (Cx.ok C) h1) (fun r2 M2 h2 => ?_)
  obtain ⟨g1, rfl, hI⟩ := h2
  exact g_icmp_eq (tgt := 1066) C dL_854 (by decide) g1 g1 (fun _ => hk M2 hI) (fun z => absurd rfl z)
theorem law_25 {i : Int} {N : Nat} (C : Cx Y X code 4 "SilentReelLaw" 100) (S : LC Y X b L xs) (hi : Inv N M) (hN : N < 4000) (h0 : 0 ≤ i) (h5 : i + 5 < (L : Nat)) (hk : ∀ M2, Inv (N + 1) M2 → G Y X 4 1066 (LV Y b i) [] M2) : G Y X 4 859 (LV Y b i) [] M := by
  refine g_aload_n (q := 2) C dL_859 rfl rfl ?_
  refine g_arg 1 C S dL_860 dL_861 dL_862 dL_863 dL_864 (by omega) ?_
  refine g_arg 2 C S dL_865 dL_866 dL_867 dL_868 dL_869 (by omega) ?_
  refine g_cVi (As := [vI (sx xs (i + 1)), vI (sx xs (i + 2))]) C clL_120 clvX11_watch dL_870 kd_0 rfl (Nat.le_of_ble_eq_true rfl) rfl (by decide) (t_X11_watch (Cx.ok C) (s_watch hi (iI_rng _) (iI_rng _))) (fun r1 M1 h1 => ?_)
  refine g_aload_n (q := 1) C dL_873 rfl rfl ?_
  refine g_arg 1 C S dL_874 dL_875 dL_876 dL_877 dL_878 (by omega) ?_
  refine g_arg 2 C S dL_879 dL_880 dL_881 dL_882 dL_883 (by omega) ?_
  refine g_cVi (As := [vI (sx xs (i + 1)), vI (sx xs (i + 2))]) C clL_124 clvX12_watch dL_884 kd_199 rfl (Nat.le_of_ble_eq_true rfl) rfl (by decide) (t_X12_watch (Cx.ok C) h1) (fun r2 M2 h2 => ?_)
  obtain ⟨g1, rfl, hI⟩ := h2
  exact g_icmp_eq (tgt := 1066) C dL_887 (by decide) g1 g1 (fun _ => hk M2 hI) (fun z => absurd rfl z)
theorem law_26 {i : Int} {N : Nat} (C : Cx Y X code 4 "SilentReelLaw" 100) (S : LC Y X b L xs) (hi : Inv N M) (hN : N < 4000) (h0 : 0 ≤ i) (h5 : i + 5 < (L : Nat)) (hk : ∀ M2, Inv (N + 1) M2 → G Y X 4 1066 (LV Y b i) [] M2) : G Y X 4 892 (LV Y b i) [] M := by
  refine g_aload_n (q := 2) C dL_892 rfl rfl ?_
  refine g_arg 1 C S dL_893 dL_894 dL_895 dL_896 dL_897 (by omega) ?_
  refine g_arg 2 C S dL_898 dL_899 dL_900 dL_901 dL_902 (by omega) ?_
  refine g_cVi (As := [vI (sx xs (i + 1)), vI (sx xs (i + 2))]) C clL_125 clvX11_send dL_903 kd_0 rfl (Nat.le_of_ble_eq_true rfl) rfl (by decide) (t_X11_send (Cx.ok C) (s_send hi (iI_rng _) (iI_rng _))) (fun r1 M1 h1 => ?_)
  refine g_aload_n (q := 1) C dL_906 rfl rfl ?_
  refine g_arg 1 C S dL_907 dL_908 dL_909 dL_910 dL_911 (by omega) ?_
  refine g_arg 2 C S dL_912 dL_913 dL_914 dL_915 dL_916 (by omega) ?_
  refine g_cVi (As := [vI (sx xs (i + 1)), vI (sx xs (i + 2))]) C clL_128 clvX12_send dL_917 kd_199 rfl (Nat.le_of_ble_eq_true rfl) rfl (by decide) (t_X12_send (Cx.ok C) h1) (fun r2 M2 h2 => ?_)
  obtain ⟨g1, rfl, hI⟩ := h2
  exact g_icmp_eq (tgt := 1066) C dL_920 (by decide) g1 g1 (fun _ => hk M2 hI) (fun z => absurd rfl z)
theorem law_27 {i : Int} {N : Nat} (C : Cx Y X code 4 "SilentReelLaw" 100) (S : LC Y X b L xs) (hi : Inv N M) (hN : N < 4000) (h0 : 0 ≤ i) (h5 : i + 5 < (L : Nat)) (hk : ∀ M2, Inv (N + 1) M2 → G Y X 4 1066 (LV Y b i) [] M2) : G Y X 4 925 (LV Y b i) [] M := by
  refine g_aload_n (q := 2) C dL_925 rfl rfl ?_
  refine g_cVi (As := []) C clL_129 clvX11_undo dL_926 kd_0 rfl (Nat.le_of_ble_eq_true rfl) rfl (by decide) (t_X11_undo (Cx.ok C) (s_undo hi)) (fun r1 M1 h1 => ?_)
  refine g_aload_n (q := 1) C dL_929 rfl rfl ?_
  refine g_cVi (As := []) C clL_133 clvX12_undo dL_930 kd_199 rfl (Nat.le_of_ble_eq_true rfl) rfl (by decide) (t_X12_undo (Cx.ok C) h1) (fun r2 M2 h2 => ?_)
  obtain ⟨g1, rfl, hI⟩ := h2
  exact g_icmp_eq (tgt := 1066) C dL_933 (by decide) g1 g1 (fun _ => hk M2 hI) (fun z => absurd rfl z)
theorem law_28 {i : Int} {N : Nat} (C : Cx Y X code 4 "SilentReelLaw" 100) (S : LC Y X b L xs) (hi : Inv N M) (hN : N < 4000) (h0 : 0 ≤ i) (h5 : i + 5 < (L : Nat)) (hk : ∀ M2, Inv (N + 1) M2 → G Y X 4 1066 (LV Y b i) [] M2) : G Y X 4 938 (LV Y b i) [] M := by
  refine g_aload_n (q := 2) C dL_938 rfl rfl ?_
  refine g_arg 1 C S dL_939 dL_940 dL_941 dL_942 dL_943 (by omega) ?_
  refine g_cVi (As := [vI (sx xs (i + 1))]) C clL_134 clvX11_seed dL_944 kd_0 rfl (Nat.le_of_ble_eq_true rfl) rfl (by decide) (t_X11_seed (Cx.ok C) (s_seed hi (iI_rng _))) (fun r1 M1 h1 => ?_)
  refine g_aload_n (q := 1) C dL_947 rfl rfl ?_
  refine g_arg 1 C S dL_948 dL_949 dL_950 dL_951 dL_952 (by omega) ?_
  refine g_cVi (As := [vI (sx xs (i + 1))]) C clL_137 clvX12_seed dL_953 kd_199 rfl (Nat.le_of_ble_eq_true rfl) rfl (by decide) (t_X12_seed (Cx.ok C) h1) (fun r2 M2 h2 => ?_)
  obtain ⟨g1, rfl, hI⟩ := h2
  exact g_icmp_eq (tgt := 1066) C dL_956 (by decide) g1 g1 (fun _ => hk M2 hI) (fun z => absurd rfl z)
theorem law_29 {i : Int} {N : Nat} (C : Cx Y X code 4 "SilentReelLaw" 100) (S : LC Y X b L xs) (hi : Inv N M) (hN : N < 4000) (h0 : 0 ≤ i) (h5 : i + 5 < (L : Nat)) (hk : ∀ M2, Inv (N + 1) M2 → G Y X 4 1066 (LV Y b i) [] M2) : G Y X 4 961 (LV Y b i) [] M := by
  refine g_aload_n (q := 2) C dL_961 rfl rfl ?_
  refine g_arg 1 C S dL_962 dL_963 dL_964 dL_965 dL_966 (by omega) ?_
  refine g_arg 2 C S dL_967 dL_968 dL_969 dL_970 dL_971 (by omega) ?_
  refine g_cVi (As := [vI (sx xs (i + 1)), vI (sx xs (i + 2))]) C clL_138 clvX11_kept dL_972 kd_0 rfl (Nat.le_of_ble_eq_true rfl) rfl (by decide) (t_X11_kept (Cx.ok C) (s_kept hi (iI_rng _) (iI_rng _))) (fun r1 M1 h1 => ?_)
  refine g_aload_n (q := 1) C dL_975 rfl rfl ?_
  refine g_arg 1 C S dL_976 dL_977 dL_978 dL_979 dL_980 (by omega) ?_
  refine g_arg 2 C S dL_981 dL_982 dL_983 dL_984 dL_985 (by omega) ?_
  refine g_cVi (As := [vI (sx xs (i + 1)), vI (sx xs (i + 2))]) C clL_141 clvX12_kept dL_986 kd_199 rfl (Nat.le_of_ble_eq_true rfl) rfl (by decide) (t_X12_kept (Cx.ok C) h1) (fun r2 M2 h2 => ?_)
  obtain ⟨g1, rfl, hI⟩ := h2
  exact g_icmp_eq (tgt := 1066) C dL_989 (by decide) g1 g1 (fun _ => hk M2 hI) (fun z => absurd rfl z)
theorem law_30 {i : Int} {N : Nat} (C : Cx Y X code 4 "SilentReelLaw" 100) (S : LC Y X b L xs) (hi : Inv N M) (hN : N < 4000) (h0 : 0 ≤ i) (h5 : i + 5 < (L : Nat)) (hk : ∀ M2, Inv (N + 1) M2 → G Y X 4 1066 (LV Y b i) [] M2) : G Y X 4 994 (LV Y b i) [] M := by
  refine g_aload_n (q := 2) C dL_994 rfl rfl ?_
  refine g_cVi (As := []) C clL_142 clvX11_image dL_995 kd_0 rfl (Nat.le_of_ble_eq_true rfl) rfl (by decide) (t_X11_image (Cx.ok C) (s_image hi)) (fun r1 M1 h1 => ?_)
  refine g_aload_n (q := 1) C dL_998 rfl rfl ?_
  refine g_cVi (As := []) C clL_145 clvX12_image dL_999 kd_199 rfl (Nat.le_of_ble_eq_true rfl) rfl (by decide) (t_X12_image (Cx.ok C) h1) (fun r2 M2 h2 => ?_)
  obtain ⟨g1, rfl, hI⟩ := h2
  exact g_icmp_eq (tgt := 1066) C dL_1002 (by decide) g1 g1 (fun _ => hk M2 hI) (fun z => absurd rfl z)
theorem law_31 {i : Int} {N : Nat} (C : Cx Y X code 4 "SilentReelLaw" 100) (S : LC Y X b L xs) (hi : Inv N M) (hN : N < 4000) (h0 : 0 ≤ i) (h5 : i + 5 < (L : Nat)) (hk : ∀ M2, Inv (N + 1) M2 → G Y X 4 1066 (LV Y b i) [] M2) : G Y X 4 1007 (LV Y b i) [] M := by
  refine g_aload_n (q := 2) C dL_1007 rfl rfl ?_
  refine g_arg 1 C S dL_1008 dL_1009 dL_1010 dL_1011 dL_1012 (by omega) ?_
  refine g_cVi (As := [vI (sx xs (i + 1))]) C clL_146 clvX11_octet dL_1013 kd_0 rfl (Nat.le_of_ble_eq_true rfl) rfl (by decide) (t_X11_octet (Cx.ok C) (s_octet hi (iI_rng _))) (fun r1 M1 h1 => ?_)
  refine g_aload_n (q := 1) C dL_1016 rfl rfl ?_
  refine g_arg 1 C S dL_1017 dL_1018 dL_1019 dL_1020 dL_1021 (by omega) ?_
  refine g_cVi (As := [vI (sx xs (i + 1))]) C clL_149 clvX12_octet dL_1022 kd_199 rfl (Nat.le_of_ble_eq_true rfl) rfl (by decide) (t_X12_octet (Cx.ok C) h1) (fun r2 M2 h2 => ?_)
  obtain ⟨g1, rfl, hI⟩ := h2
  exact g_icmp_eq (tgt := 1066) C dL_1025 (by decide) g1 g1 (fun _ => hk M2 hI) (fun z => absurd rfl z)
theorem law_32 {i : Int} {N : Nat} (C : Cx Y X code 4 "SilentReelLaw" 100) (S : LC Y X b L xs) (hi : Inv N M) (hN : N < 4000) (h0 : 0 ≤ i) (h5 : i + 5 < (L : Nat)) (hk : ∀ M2, Inv (N + 1) M2 → G Y X 4 1066 (LV Y b i) [] M2) : G Y X 4 1030 (LV Y b i) [] M := by
  refine g_aload_n (q := 2) C dL_1030 rfl rfl ?_
  refine g_cVi (As := []) C clL_150 clvX11_on dL_1031 kd_0 rfl (Nat.le_of_ble_eq_true rfl) rfl (by decide) (t_X11_on (Cx.ok C) (s_on hi)) (fun r1 M1 h1 => ?_)
  refine g_aload_n (q := 1) C dL_1034 rfl rfl ?_
  refine g_cVi (As := []) C clL_153 clvX12_on dL_1035 kd_199 rfl (Nat.le_of_ble_eq_true rfl) rfl (by decide) (t_X12_on (Cx.ok C) h1) (fun r2 M2 h2 => ?_)
  obtain ⟨g1, rfl, hI⟩ := h2
  exact g_icmp_eq (tgt := 1066) C dL_1038 (by decide) g1 g1 (fun _ => hk M2 hI) (fun z => absurd rfl z)
theorem law_33 {i : Int} {N : Nat} (C : Cx Y X code 4 "SilentReelLaw" 100) (S : LC Y X b L xs) (hi : Inv N M) (hN : N < 4000) (h0 : 0 ≤ i) (h5 : i + 5 < (L : Nat)) (hk : ∀ M2, Inv (N + 1) M2 → G Y X 4 1066 (LV Y b i) [] M2) : G Y X 4 1043 (LV Y b i) [] M := by
  refine g_aload_n (q := 2) C dL_1043 rfl rfl ?_
  refine g_arg 1 C S dL_1044 dL_1045 dL_1046 dL_1047 dL_1048 (by omega) ?_
  refine g_cVi (As := [vI (sx xs (i + 1))]) C clL_154 clvX11_status dL_1049 kd_0 rfl (Nat.le_of_ble_eq_true rfl) rfl (by decide) (t_X11_status (Cx.ok C) (s_status hi hN (iI_rng _))) (fun r1 M1 h1 => ?_)
  refine g_aload_n (q := 1) C dL_1052 rfl rfl ?_
  refine g_arg 1 C S dL_1053 dL_1054 dL_1055 dL_1056 dL_1057 (by omega) ?_
  refine g_cVi (As := [vI (sx xs (i + 1))]) C clL_157 clvX12_status dL_1058 kd_199 rfl (Nat.le_of_ble_eq_true rfl) rfl (by decide) (t_X12_status (Cx.ok C) h1) (fun r2 M2 h2 => ?_)
  obtain ⟨g1, rfl, hI⟩ := h2
  exact g_icmp_eq (tgt := 1066) C dL_1061 (by decide) g1 g1 (fun _ => hk M2 hI) (fun z => absurd rfl z)
theorem zand_63 (y : Int) : 0 ≤ zand y 63 ∧ zand y 63 < 64 := by
  unfold zand
  have h : ∀ x : BitVec 32, 0 ≤ (x &&& 63#32).toInt ∧ (x &&& 63#32).toInt < 64 := by
    intro x
    have : (x &&& 63#32).toNat ≤ 63 := by rw [BitVec.toNat_and]; exact Nat.and_le_right
    rw [BitVec.toInt_eq_toNat_of_lt (by omega)]
    omega
  exact h (iI y).toBitVec
theorem law_step {i : Int} {N : Nat} (C : Cx Y X code 4 "SilentReelLaw" 100) (S : LC Y X b L xs) (hi : Inv N M) (hN : N < 4000) (h0 : 0 ≤ i) (h5 : i + 5 < (L : Nat)) (hk : ∀ M2, Inv (N + 1) M2 → G Y X 4 1066 (LV Y b i) [] M2) (hk0 : G Y X 4 1066 (LV Y b i) [] M) : G Y X 4 27 (LV Y b i) [] M := by
  refine g_aloadV (q := 3) C dL_27 rfl rfl ?_
  refine g_iload_n (q := 0) C dL_28 rfl rfl ?_
  refine g_sld C S dL_29 (by omega) ?_
  refine g_bipush (v := 63) C dL_30 (by decide +kernel) ?_
  refine g_iand C dL_32 ?_
  have hz := zand_63 (sx xs i)
  obtain ⟨z, ez⟩ : ∃ z, z = zand (sx xs i) 63 := ⟨_, rfl⟩
  rw [← ez] at hz
  refine G.nmI ez ?_
  have hr : inI z := by omega
  rcases (show z = 0 ∨ z = 1 ∨ z = 2 ∨ z = 3 ∨ z = 4 ∨ z = 5 ∨ z = 6 ∨ z = 7 ∨ z = 8 ∨ z = 9 ∨ z = 10 ∨ z = 11 ∨ z = 12 ∨ z = 13 ∨ z = 14 ∨ z = 15 ∨ z = 16 ∨ z = 17 ∨ z = 18 ∨ z = 19 ∨ z = 20 ∨ z = 21 ∨ z = 22 ∨ z = 23 ∨ z = 24 ∨ z = 25 ∨ z = 26 ∨ z = 27 ∨ z = 28 ∨ z = 29 ∨ z = 30 ∨ z = 31 ∨ z = 32 ∨ z = 33 ∨ (z < 0 ∨ 33 < z) by omega) with q | q | q | q | q | q | q | q | q | q | q | q | q | q | q | q | q | q | q | q | q | q | q | q | q | q | q | q | q | q | q | q | q | q | q
  · refine g_tswIn (off := 151) (tgt := 184) C dL_33 hr (by omega) (by omega) (by rw [q]; rfl) (by decide) ?_
    exact law_0 C S hi hN h0 h5 hk
  · refine g_tswIn (off := 214) (tgt := 247) C dL_33 hr (by omega) (by omega) (by rw [q]; rfl) (by decide) ?_
    exact law_1 C S hi hN h0 h5 hk
  · refine g_tswIn (off := 237) (tgt := 270) C dL_33 hr (by omega) (by omega) (by rw [q]; rfl) (by decide) ?_
    exact law_2 C S hi hN h0 h5 hk
  · refine g_tswIn (off := 250) (tgt := 283) C dL_33 hr (by omega) (by omega) (by rw [q]; rfl) (by decide) ?_
    exact law_3 C S hi hN h0 h5 hk
  · refine g_tswIn (off := 273) (tgt := 306) C dL_33 hr (by omega) (by omega) (by rw [q]; rfl) (by decide) ?_
    exact law_4 C S hi hN h0 h5 hk
  · refine g_tswIn (off := 296) (tgt := 329) C dL_33 hr (by omega) (by omega) (by rw [q]; rfl) (by decide) ?_
    exact law_5 C S hi hN h0 h5 hk
  · refine g_tswIn (off := 339) (tgt := 372) C dL_33 hr (by omega) (by omega) (by rw [q]; rfl) (by decide) ?_
    exact law_6 C S hi hN h0 h5 hk
  · refine g_tswIn (off := 372) (tgt := 405) C dL_33 hr (by omega) (by omega) (by rw [q]; rfl) (by decide) ?_
    exact law_7 C S hi hN h0 h5 hk
  · refine g_tswIn (off := 405) (tgt := 438) C dL_33 hr (by omega) (by omega) (by rw [q]; rfl) (by decide) ?_
    exact law_8 C S hi hN h0 h5 hk
  · refine g_tswIn (off := 438) (tgt := 471) C dL_33 hr (by omega) (by omega) (by rw [q]; rfl) (by decide) ?_
    exact law_9 C S hi hN h0 h5 hk
  · refine g_tswIn (off := 471) (tgt := 504) C dL_33 hr (by omega) (by omega) (by rw [q]; rfl) (by decide) ?_
    exact law_10 C S hi hN h0 h5 hk
  · refine g_tswIn (off := 504) (tgt := 537) C dL_33 hr (by omega) (by omega) (by rw [q]; rfl) (by decide) ?_
    exact law_11 C S hi hN h0 h5 hk
  · refine g_tswIn (off := 517) (tgt := 550) C dL_33 hr (by omega) (by omega) (by rw [q]; rfl) (by decide) ?_
    exact law_12 C S hi hN h0 h5 hk
  · refine g_tswIn (off := 550) (tgt := 583) C dL_33 hr (by omega) (by omega) (by rw [q]; rfl) (by decide) ?_
    exact law_13 C S hi hN h0 h5 hk
  · refine g_tswIn (off := 563) (tgt := 596) C dL_33 hr (by omega) (by omega) (by rw [q]; rfl) (by decide) ?_
    exact law_14 C S hi hN h0 h5 hk
  · refine g_tswIn (off := 576) (tgt := 609) C dL_33 hr (by omega) (by omega) (by rw [q]; rfl) (by decide) ?_
    exact law_15 C S hi hN h0 h5 hk
  · refine g_tswIn (off := 589) (tgt := 622) C dL_33 hr (by omega) (by omega) (by rw [q]; rfl) (by decide) ?_
    exact law_16 C S hi hN h0 h5 hk
  · refine g_tswIn (off := 622) (tgt := 655) C dL_33 hr (by omega) (by omega) (by rw [q]; rfl) (by decide) ?_
    exact law_17 C S hi hN h0 h5 hk
  · refine g_tswIn (off := 655) (tgt := 688) C dL_33 hr (by omega) (by omega) (by rw [q]; rfl) (by decide) ?_
    exact law_18 C S hi hN h0 h5 hk
  · refine g_tswIn (off := 668) (tgt := 701) C dL_33 hr (by omega) (by omega) (by rw [q]; rfl) (by decide) ?_
    exact law_19 C S hi hN h0 h5 hk
  · refine g_tswIn (off := 681) (tgt := 714) C dL_33 hr (by omega) (by omega) (by rw [q]; rfl) (by decide) ?_
    exact law_20 C S hi hN h0 h5 hk
  · refine g_tswIn (off := 714) (tgt := 747) C dL_33 hr (by omega) (by omega) (by rw [q]; rfl) (by decide) ?_
    exact law_21 C S hi hN h0 h5 hk
  · refine g_tswIn (off := 737) (tgt := 770) C dL_33 hr (by omega) (by omega) (by rw [q]; rfl) (by decide) ?_
    exact law_22 C S hi hN h0 h5 hk
  · refine g_tswIn (off := 760) (tgt := 793) C dL_33 hr (by omega) (by omega) (by rw [q]; rfl) (by decide) ?_
    exact law_23 C S hi hN h0 h5 hk
  · refine g_tswIn (off := 803) (tgt := 836) C dL_33 hr (by omega) (by omega) (by rw [q]; rfl) (by decide) ?_
    exact law_24 C S hi hN h0 h5 hk
  · refine g_tswIn (off := 826) (tgt := 859) C dL_33 hr (by omega) (by omega) (by rw [q]; rfl) (by decide) ?_
    exact law_25 C S hi hN h0 h5 hk
  · refine g_tswIn (off := 859) (tgt := 892) C dL_33 hr (by omega) (by omega) (by rw [q]; rfl) (by decide) ?_
    exact law_26 C S hi hN h0 h5 hk
  · refine g_tswIn (off := 892) (tgt := 925) C dL_33 hr (by omega) (by omega) (by rw [q]; rfl) (by decide) ?_
    exact law_27 C S hi hN h0 h5 hk
  · refine g_tswIn (off := 905) (tgt := 938) C dL_33 hr (by omega) (by omega) (by rw [q]; rfl) (by decide) ?_
    exact law_28 C S hi hN h0 h5 hk
  · refine g_tswIn (off := 928) (tgt := 961) C dL_33 hr (by omega) (by omega) (by rw [q]; rfl) (by decide) ?_
    exact law_29 C S hi hN h0 h5 hk
  · refine g_tswIn (off := 961) (tgt := 994) C dL_33 hr (by omega) (by omega) (by rw [q]; rfl) (by decide) ?_
    exact law_30 C S hi hN h0 h5 hk
  · refine g_tswIn (off := 974) (tgt := 1007) C dL_33 hr (by omega) (by omega) (by rw [q]; rfl) (by decide) ?_
    exact law_31 C S hi hN h0 h5 hk
  · refine g_tswIn (off := 997) (tgt := 1030) C dL_33 hr (by omega) (by omega) (by rw [q]; rfl) (by decide) ?_
    exact law_32 C S hi hN h0 h5 hk
  · refine g_tswIn (off := 1010) (tgt := 1043) C dL_33 hr (by omega) (by omega) (by rw [q]; rfl) (by decide) ?_
    exact law_33 C S hi hN h0 h5 hk
  · exact g_tswOut (tgt := 1066) C dL_33 hr q (by decide) hk0
theorem law_done {i : Int} (C : Cx Y X code 4 own d) (S : LC Y X b L xs) (h0 : 0 ≤ i) (h : (L : Int) - 6 < i) (h2 : i ≤ 4000) : G Y X 4 18 (LV Y b i) [] M := by
  have hL : L ≤ 3072 := by
    obtain ⟨p, l, e, R, s, m, args, below, meth, c, Q, cl, sl⟩ := X
    exact S.2.2.2.1
  refine g_iload_n (q := 0) C dL_18 rfl rfl ?_
  refine g_aloadV (q := 3) C dL_19 rfl rfl ?_
  refine g_slen C S dL_20 ?_
  refine g_bipush (v := 6) C dL_21 (by decide +kernel) ?_
  refine g_isub C dL_23 ?_
  exact g_icmp_gt (tgt := 1072) C dL_24 (by decide) (by omega) (by omega) (fun q => g_end C S) (fun q => absurd h q)
theorem law_loop (C : Cx Y X code 4 "SilentReelLaw" 100) (S : LC Y X b L xs) : ∀ (n : Nat) (i : Int) (N : Nat) (M : Mem), 0 ≤ i → i ≤ (L : Int) + 6 → (L : Int) + 6 ≤ i + 6 * n → N + n < 4000 → Inv N M → G Y X 4 18 (LV Y b i) [] M := by
  have hL : L ≤ 3072 := by
    obtain ⟨p, l, e, R, s, m, args, below, meth, c, Q, cl, sl⟩ := X
    exact S.2.2.2.1
  intro n
  induction n with
  | zero =>
    intro i N M h0 hu hn hN hI
    exact law_done C S h0 (by omega) (by omega)
  | succ n ih =>
    intro i N M h0 hu hn hN hI
    by_cases hd : (L : Int) - 6 < i
    · exact law_done C S h0 hd (by omega)
    refine g_iload_n (q := 0) C dL_18 rfl rfl ?_
    refine g_aloadV (q := 3) C dL_19 rfl rfl ?_
    refine g_slen C S dL_20 ?_
    refine g_bipush (v := 6) C dL_21 (by decide +kernel) ?_
    refine g_isub C dL_23 ?_
    refine g_icmp_gt (tgt := 1072) C dL_24 (by decide) (by omega) (by omega) (fun q => absurd q hd) (fun q => ?_)
    have hb : ∀ (N : Nat) (M2 : Mem), N + n < 4000 → Inv N M2 → G Y X 4 1066 (LV Y b i) [] M2 := fun N M2 h1 h2 => by
      refine g_iinc (q := 0) (v := i + 6) (lv' := LV Y b (i + 6)) C dL_1066 rfl rfl (by decide) rfl ?_
      refine g_goto (tgt := 18) C dL_1069 (by decide) ?_
      exact ih (i + 6) N M2 (by omega) (by omega) (by omega) h1 h2
    exact law_step C S hI (by omega) h0 (by omega) (fun M2 h2 => hb _ M2 (by omega) h2) (hb _ M (by omega) hI)
end LW
