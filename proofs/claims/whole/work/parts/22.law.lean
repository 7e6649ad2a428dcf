/-! THE CLAIM OUT OF ONE WALK OF THE LAW'S BODY. Your part is whole_start (and what it stands on); all else here is the same for every law, but numbers. -/
def R_law : String := "NumberPlaceLaw"
def lw_P (b : Addr) (xs : List Int32) (args : Array Value) (s : State) : Prop := args = #[.ref b] ∧ s.IntsAt b xs ∧ xs.length ≤ 2048 ∧ (Jvm.Cond.and given_1 narrow_1).before args s = true
def lw_Q (_ : Array Value) (s : State) (o : Outcome) (t : State) : Prop := o = .returned (some (.int 1)) ∧ Framed s o t [] 601024 7293034
def lw_Z (below : List Frame) (a : Array Value) (s : State) : State → Prop := fun t => ∃ o, t.status = .running ∧ Ended t below o ∧ lw_Q a s o t
/-- the law's own end, with 1 on the stack, nothing written that was there before, its room as the claim has it -/
theorem lw_ret {p : Program} {l : Launch} {e : Env} {s : State} {m : MethodId} {below : List Frame} {meth : Method} {c : Code} {b : Nat} (hx : p.tables.exec = Jvm.exec) (hb : c.code = code) (hr : meth.sig.returnType = ret) (hlocks : meth.locks = false) {pc : Nat} {H : Heap} {ls : Array Slot} (hdg : decode code pc = .ok (.ireturn, 1)) : W p l e room_1 s m #[Value.ref b] below meth c H [] 601024 7293034 (lw_Z below #[Value.ref b] s) (F0 m pc ls [.int 1]) := by
  intro T hT X
  obtain ⟨fs, hret, hrun, hended, hW, hframe⟩ := X.leave (v := some (.int 1)) (hlocks := hlocks) (fun h => by rw [hr] at h; cases h)
  have hmeth' : T.vm.method? m = some meth := X.method'
  refine ⟨T.setFrames fs, ?_, .returned (some (.int 1)), hrun, hended, rfl, ⟨_, rfl⟩, hW, hframe⟩
  jvm_step X.here [X.here.top, hx, hb, hdg, hmeth', hr, ret, narrow_b1]
  (try refine ⟨rfl, ?_⟩); (try refine ⟨rfl, ?_⟩)
  first | (intro acts; rw [hret _ acts rfl rfl rfl]) | rw [hret _ _ rfl rfl rfl]
  exact Steps.refl _
/-- what holds at the law's entry: the machine, the code, the tables' words (any of lw_tbl by 'hts w (by decide +kernel)'), the script of L ints xs at the cell b, what the Statement gives of the start (any of its parts by flat_of_before) -/
def lw_At (p : Program) (s : State) (m : MethodId) (meth : Method) (c : Code) (b L : Nat) (xs : Nat → Int32) : Prop :=
  p.tables.exec = Jvm.exec ∧ c.code = code ∧ meth.sig.returnType = ret ∧ c.maxLocals = 7 ∧ s.vm.findClass R_law = some m.cls ∧ (∀ w ∈ lw_tbl, w.before #[Value.ref b] s = true) ∧ va_X b L xs s s.heap ∧ b < s.heap.size ∧ meth.locks = false ∧ (Jvm.Cond.and given_1 narrow_1).before #[Value.ref b] s = true
theorem d_Law_law_0 : decode code 0 = .ok (.new 8, 3) := by decide +kernel
theorem d_Law_law_3 : decode code 3 = .ok (.dup, 1) := by decide +kernel
theorem d_Law_law_4 : decode code 4 = .ok (.invokespecial 74, 3) := by decide +kernel
theorem d_Law_law_7 : decode code 7 = .ok (.astore_n 1, 1) := by decide +kernel
theorem d_Law_law_8 : decode code 8 = .ok (.new 75, 3) := by decide +kernel
theorem d_Law_law_11 : decode code 11 = .ok (.dup, 1) := by decide +kernel
theorem d_Law_law_12 : decode code 12 = .ok (.invokespecial 77, 3) := by decide +kernel
theorem d_Law_law_15 : decode code 15 = .ok (.astore_n 2, 1) := by decide +kernel
theorem d_Law_law_16 : decode code 16 = .ok (.iconst 1, 1) := by decide +kernel
theorem d_Law_law_17 : decode code 17 = .ok (.newarray .long, 2) := by decide +kernel
theorem d_Law_law_19 : decode code 19 = .ok (.astore_n 3, 1) := by decide +kernel
theorem d_Law_law_20 : decode code 20 = .ok (.iconst 0, 1) := by decide +kernel
theorem d_Law_law_21 : decode code 21 = .ok (.istore 4, 2) := by decide +kernel
theorem d_Law_law_23 : decode code 23 = .ok (.iload 4, 2) := by decide +kernel
theorem d_Law_law_25 : decode code 25 = .ok (.aload_n 0, 1) := by decide +kernel
theorem d_Law_law_26 : decode code 26 = .ok (.arraylength, 1) := by decide +kernel
theorem d_Law_law_27 : decode code 27 = .ok (.iconst 4, 1) := by decide +kernel
theorem d_Law_law_28 : decode code 28 = .ok (.isub, 1) := by decide +kernel
theorem d_Law_law_29 : decode code 29 = .ok (.if_icmp .gt 1431, 3) := by decide +kernel
theorem d_Law_law_32 : decode code 32 = .ok (.aload_n 0, 1) := by decide +kernel
theorem d_Law_law_33 : decode code 33 = .ok (.iload 4, 2) := by decide +kernel
theorem d_Law_law_35 : decode code 35 = .ok (.iaload, 1) := by decide +kernel
theorem d_Law_law_36 : decode code 36 = .ok (.bipush 31, 2) := by decide +kernel
theorem d_Law_law_38 : decode code 38 = .ok (.iand, 1) := by decide +kernel
theorem d_Law_law_39 : decode code 39 = .ok (.tableswitch 1415 0 28 #[129, 142, 210, 285, 365, 433, 446, 514, 582, 650, 706, 762, 830, 886, 899, 912, 925, 993, 1049, 1105, 1118, 1174, 1187, 1262, 1275, 1331, 1344, 1357, 1401], 129) := by decide +kernel
theorem d_Law_law_168 : decode code 168 = .ok (.aload_n 1, 1) := by decide +kernel
theorem d_Law_law_169 : decode code 169 = .ok (.invokevirtual 78, 3) := by decide +kernel
theorem d_Law_law_172 : decode code 172 = .ok (.aload_n 2, 1) := by decide +kernel
theorem d_Law_law_173 : decode code 173 = .ok (.invokevirtual 81, 3) := by decide +kernel
theorem d_Law_law_176 : decode code 176 = .ok (.if_icmp .eq 1278, 3) := by decide +kernel
theorem d_Law_law_179 : decode code 179 = .ok (.iconst 0, 1) := by decide +kernel
theorem d_Law_law_180 : decode code 180 = .ok (.ireturn, 1) := by decide +kernel
theorem d_Law_law_181 : decode code 181 = .ok (.aload_n 1, 1) := by decide +kernel
theorem d_Law_law_182 : decode code 182 = .ok (.aload_n 0, 1) := by decide +kernel
theorem d_Law_law_183 : decode code 183 = .ok (.iload 4, 2) := by decide +kernel
theorem d_Law_law_185 : decode code 185 = .ok (.iconst 1, 1) := by decide +kernel
theorem d_Law_law_186 : decode code 186 = .ok (.iadd, 1) := by decide +kernel
theorem d_Law_law_187 : decode code 187 = .ok (.iaload, 1) := by decide +kernel
theorem d_Law_law_188 : decode code 188 = .ok (.aload_n 0, 1) := by decide +kernel
theorem d_Law_law_189 : decode code 189 = .ok (.iload 4, 2) := by decide +kernel
theorem d_Law_law_191 : decode code 191 = .ok (.iconst 2, 1) := by decide +kernel
theorem d_Law_law_192 : decode code 192 = .ok (.iadd, 1) := by decide +kernel
theorem d_Law_law_193 : decode code 193 = .ok (.iaload, 1) := by decide +kernel
theorem d_Law_law_194 : decode code 194 = .ok (.aload_n 3, 1) := by decide +kernel
theorem d_Law_law_195 : decode code 195 = .ok (.invokestatic 82, 3) := by decide +kernel
theorem d_Law_law_198 : decode code 198 = .ok (.istore 5, 2) := by decide +kernel
theorem d_Law_law_200 : decode code 200 = .ok (.aload_n 2, 1) := by decide +kernel
theorem d_Law_law_201 : decode code 201 = .ok (.aload_n 0, 1) := by decide +kernel
theorem d_Law_law_202 : decode code 202 = .ok (.iload 4, 2) := by decide +kernel
theorem d_Law_law_204 : decode code 204 = .ok (.iconst 1, 1) := by decide +kernel
theorem d_Law_law_205 : decode code 205 = .ok (.iadd, 1) := by decide +kernel
theorem d_Law_law_206 : decode code 206 = .ok (.iaload, 1) := by decide +kernel
theorem d_Law_law_207 : decode code 207 = .ok (.aload_n 0, 1) := by decide +kernel
theorem d_Law_law_208 : decode code 208 = .ok (.iload 4, 2) := by decide +kernel
theorem d_Law_law_210 : decode code 210 = .ok (.iconst 2, 1) := by decide +kernel
theorem d_Law_law_211 : decode code 211 = .ok (.iadd, 1) := by decide +kernel
theorem d_Law_law_212 : decode code 212 = .ok (.iaload, 1) := by decide +kernel
theorem d_Law_law_213 : decode code 213 = .ok (.invokevirtual 87, 3) := by decide +kernel
theorem d_Law_law_216 : decode code 216 = .ok (.istore 6, 2) := by decide +kernel
theorem d_Law_law_218 : decode code 218 = .ok (.aload_n 2, 1) := by decide +kernel
theorem d_Law_law_219 : decode code 219 = .ok (.invokevirtual 88, 3) := by decide +kernel
theorem d_Law_law_222 : decode code 222 = .ok (.iload 5, 2) := by decide +kernel
theorem d_Law_law_224 : decode code 224 = .ok (.if_icmp .eq 5, 3) := by decide +kernel
theorem d_Law_law_227 : decode code 227 = .ok (.iconst 0, 1) := by decide +kernel
theorem d_Law_law_228 : decode code 228 = .ok (.ireturn, 1) := by decide +kernel
theorem d_Law_law_229 : decode code 229 = .ok (.iload 5, 2) := by decide +kernel
theorem d_Law_law_231 : decode code 231 = .ok (.ifCond .ne 15, 3) := by decide +kernel
theorem d_Law_law_234 : decode code 234 = .ok (.aload_n 3, 1) := by decide +kernel
theorem d_Law_law_235 : decode code 235 = .ok (.iconst 0, 1) := by decide +kernel
theorem d_Law_law_236 : decode code 236 = .ok (.laload, 1) := by decide +kernel
theorem d_Law_law_237 : decode code 237 = .ok (.iload 6, 2) := by decide +kernel
theorem d_Law_law_239 : decode code 239 = .ok (.i2l, 1) := by decide +kernel
theorem d_Law_law_240 : decode code 240 = .ok (.lcmp, 1) := by decide +kernel
theorem d_Law_law_241 : decode code 241 = .ok (.ifCond .eq 5, 3) := by decide +kernel
theorem d_Law_law_244 : decode code 244 = .ok (.iconst 0, 1) := by decide +kernel
theorem d_Law_law_245 : decode code 245 = .ok (.ireturn, 1) := by decide +kernel
theorem d_Law_law_246 : decode code 246 = .ok (.goto 1208, 3) := by decide +kernel
theorem d_Law_law_249 : decode code 249 = .ok (.aload_n 1, 1) := by decide +kernel
theorem d_Law_law_250 : decode code 250 = .ok (.aload_n 0, 1) := by decide +kernel
theorem d_Law_law_251 : decode code 251 = .ok (.iload 4, 2) := by decide +kernel
theorem d_Law_law_253 : decode code 253 = .ok (.iconst 1, 1) := by decide +kernel
theorem d_Law_law_254 : decode code 254 = .ok (.iadd, 1) := by decide +kernel
theorem d_Law_law_255 : decode code 255 = .ok (.iaload, 1) := by decide +kernel
theorem d_Law_law_256 : decode code 256 = .ok (.aload_n 0, 1) := by decide +kernel
theorem d_Law_law_257 : decode code 257 = .ok (.iload 4, 2) := by decide +kernel
theorem d_Law_law_259 : decode code 259 = .ok (.iconst 2, 1) := by decide +kernel
theorem d_Law_law_260 : decode code 260 = .ok (.iadd, 1) := by decide +kernel
theorem d_Law_law_261 : decode code 261 = .ok (.iaload, 1) := by decide +kernel
theorem d_Law_law_262 : decode code 262 = .ok (.aload_n 3, 1) := by decide +kernel
theorem d_Law_law_263 : decode code 263 = .ok (.invokestatic 91, 3) := by decide +kernel
theorem d_Law_law_266 : decode code 266 = .ok (.istore 5, 2) := by decide +kernel
theorem d_Law_law_268 : decode code 268 = .ok (.aload_n 2, 1) := by decide +kernel
theorem d_Law_law_269 : decode code 269 = .ok (.aload_n 0, 1) := by decide +kernel
theorem d_Law_law_270 : decode code 270 = .ok (.iload 4, 2) := by decide +kernel
theorem d_Law_law_272 : decode code 272 = .ok (.iconst 1, 1) := by decide +kernel
theorem d_Law_law_273 : decode code 273 = .ok (.iadd, 1) := by decide +kernel
theorem d_Law_law_274 : decode code 274 = .ok (.iaload, 1) := by decide +kernel
theorem d_Law_law_275 : decode code 275 = .ok (.aload_n 0, 1) := by decide +kernel
theorem d_Law_law_276 : decode code 276 = .ok (.iload 4, 2) := by decide +kernel
theorem d_Law_law_278 : decode code 278 = .ok (.iconst 2, 1) := by decide +kernel
theorem d_Law_law_279 : decode code 279 = .ok (.iadd, 1) := by decide +kernel
theorem d_Law_law_280 : decode code 280 = .ok (.iaload, 1) := by decide +kernel
theorem d_Law_law_281 : decode code 281 = .ok (.invokevirtual 93, 3) := by decide +kernel
theorem d_Law_law_284 : decode code 284 = .ok (.istore 6, 2) := by decide +kernel
theorem d_Law_law_286 : decode code 286 = .ok (.aload_n 2, 1) := by decide +kernel
theorem d_Law_law_287 : decode code 287 = .ok (.invokevirtual 88, 3) := by decide +kernel
theorem d_Law_law_290 : decode code 290 = .ok (.iload 5, 2) := by decide +kernel
theorem d_Law_law_292 : decode code 292 = .ok (.if_icmp .eq 5, 3) := by decide +kernel
theorem d_Law_law_295 : decode code 295 = .ok (.iconst 0, 1) := by decide +kernel
theorem d_Law_law_296 : decode code 296 = .ok (.ireturn, 1) := by decide +kernel
theorem d_Law_law_297 : decode code 297 = .ok (.iload 5, 2) := by decide +kernel
theorem d_Law_law_299 : decode code 299 = .ok (.ifCond .ne 22, 3) := by decide +kernel
theorem d_Law_law_302 : decode code 302 = .ok (.aload_n 3, 1) := by decide +kernel
theorem d_Law_law_303 : decode code 303 = .ok (.iconst 0, 1) := by decide +kernel
theorem d_Law_law_304 : decode code 304 = .ok (.laload, 1) := by decide +kernel
theorem d_Law_law_305 : decode code 305 = .ok (.iload 6, 2) := by decide +kernel
theorem d_Law_law_307 : decode code 307 = .ok (.ifCond .eq 7, 3) := by decide +kernel
theorem d_Law_law_310 : decode code 310 = .ok (.lconst 1, 1) := by decide +kernel
theorem d_Law_law_311 : decode code 311 = .ok (.goto 4, 3) := by decide +kernel
theorem d_Law_law_314 : decode code 314 = .ok (.lconst 0, 1) := by decide +kernel
theorem d_Law_law_315 : decode code 315 = .ok (.lcmp, 1) := by decide +kernel
theorem d_Law_law_316 : decode code 316 = .ok (.ifCond .eq 5, 3) := by decide +kernel
theorem d_Law_law_319 : decode code 319 = .ok (.iconst 0, 1) := by decide +kernel
theorem d_Law_law_320 : decode code 320 = .ok (.ireturn, 1) := by decide +kernel
theorem d_Law_law_321 : decode code 321 = .ok (.goto 1133, 3) := by decide +kernel
theorem d_Law_law_324 : decode code 324 = .ok (.aload_n 1, 1) := by decide +kernel
theorem d_Law_law_325 : decode code 325 = .ok (.aload_n 0, 1) := by decide +kernel
theorem d_Law_law_326 : decode code 326 = .ok (.iload 4, 2) := by decide +kernel
theorem d_Law_law_328 : decode code 328 = .ok (.iconst 1, 1) := by decide +kernel
theorem d_Law_law_329 : decode code 329 = .ok (.iadd, 1) := by decide +kernel
theorem d_Law_law_330 : decode code 330 = .ok (.iaload, 1) := by decide +kernel
theorem d_Law_law_331 : decode code 331 = .ok (.aload_n 0, 1) := by decide +kernel
theorem d_Law_law_332 : decode code 332 = .ok (.iload 4, 2) := by decide +kernel
theorem d_Law_law_334 : decode code 334 = .ok (.iconst 2, 1) := by decide +kernel
theorem d_Law_law_335 : decode code 335 = .ok (.iadd, 1) := by decide +kernel
theorem d_Law_law_336 : decode code 336 = .ok (.iaload, 1) := by decide +kernel
theorem d_Law_law_337 : decode code 337 = .ok (.aload_n 0, 1) := by decide +kernel
theorem d_Law_law_338 : decode code 338 = .ok (.iload 4, 2) := by decide +kernel
theorem d_Law_law_340 : decode code 340 = .ok (.iconst 3, 1) := by decide +kernel
theorem d_Law_law_341 : decode code 341 = .ok (.iadd, 1) := by decide +kernel
theorem d_Law_law_342 : decode code 342 = .ok (.iaload, 1) := by decide +kernel
theorem d_Law_law_343 : decode code 343 = .ok (.aload_n 3, 1) := by decide +kernel
theorem d_Law_law_344 : decode code 344 = .ok (.invokestatic 94, 3) := by decide +kernel
theorem d_Law_law_347 : decode code 347 = .ok (.istore 5, 2) := by decide +kernel
theorem d_Law_law_349 : decode code 349 = .ok (.aload_n 2, 1) := by decide +kernel
theorem d_Law_law_350 : decode code 350 = .ok (.aload_n 0, 1) := by decide +kernel
theorem d_Law_law_351 : decode code 351 = .ok (.iload 4, 2) := by decide +kernel
theorem d_Law_law_353 : decode code 353 = .ok (.iconst 1, 1) := by decide +kernel
theorem d_Law_law_354 : decode code 354 = .ok (.iadd, 1) := by decide +kernel
theorem d_Law_law_355 : decode code 355 = .ok (.iaload, 1) := by decide +kernel
theorem d_Law_law_356 : decode code 356 = .ok (.aload_n 0, 1) := by decide +kernel
theorem d_Law_law_357 : decode code 357 = .ok (.iload 4, 2) := by decide +kernel
theorem d_Law_law_359 : decode code 359 = .ok (.iconst 2, 1) := by decide +kernel
theorem d_Law_law_360 : decode code 360 = .ok (.iadd, 1) := by decide +kernel
theorem d_Law_law_361 : decode code 361 = .ok (.iaload, 1) := by decide +kernel
theorem d_Law_law_362 : decode code 362 = .ok (.aload_n 0, 1) := by decide +kernel
theorem d_Law_law_363 : decode code 363 = .ok (.iload 4, 2) := by decide +kernel
theorem d_Law_law_365 : decode code 365 = .ok (.iconst 3, 1) := by decide +kernel
theorem d_Law_law_366 : decode code 366 = .ok (.iadd, 1) := by decide +kernel
theorem d_Law_law_367 : decode code 367 = .ok (.iaload, 1) := by decide +kernel
theorem d_Law_law_368 : decode code 368 = .ok (.invokevirtual 97, 3) := by decide +kernel
theorem d_Law_law_371 : decode code 371 = .ok (.istore 6, 2) := by decide +kernel
theorem d_Law_law_373 : decode code 373 = .ok (.aload_n 2, 1) := by decide +kernel
theorem d_Law_law_374 : decode code 374 = .ok (.invokevirtual 88, 3) := by decide +kernel
theorem d_Law_law_377 : decode code 377 = .ok (.iload 5, 2) := by decide +kernel
theorem d_Law_law_379 : decode code 379 = .ok (.if_icmp .eq 5, 3) := by decide +kernel
theorem d_Law_law_382 : decode code 382 = .ok (.iconst 0, 1) := by decide +kernel
theorem d_Law_law_383 : decode code 383 = .ok (.ireturn, 1) := by decide +kernel
theorem d_Law_law_384 : decode code 384 = .ok (.iload 5, 2) := by decide +kernel
theorem d_Law_law_386 : decode code 386 = .ok (.ifCond .ne 15, 3) := by decide +kernel
theorem d_Law_law_389 : decode code 389 = .ok (.aload_n 3, 1) := by decide +kernel
theorem d_Law_law_390 : decode code 390 = .ok (.iconst 0, 1) := by decide +kernel
theorem d_Law_law_391 : decode code 391 = .ok (.laload, 1) := by decide +kernel
theorem d_Law_law_392 : decode code 392 = .ok (.iload 6, 2) := by decide +kernel
theorem d_Law_law_394 : decode code 394 = .ok (.i2l, 1) := by decide +kernel
theorem d_Law_law_395 : decode code 395 = .ok (.lcmp, 1) := by decide +kernel
theorem d_Law_law_396 : decode code 396 = .ok (.ifCond .eq 5, 3) := by decide +kernel
theorem d_Law_law_399 : decode code 399 = .ok (.iconst 0, 1) := by decide +kernel
theorem d_Law_law_400 : decode code 400 = .ok (.ireturn, 1) := by decide +kernel
theorem d_Law_law_401 : decode code 401 = .ok (.goto 1053, 3) := by decide +kernel
theorem d_Law_law_404 : decode code 404 = .ok (.aload_n 1, 1) := by decide +kernel
theorem d_Law_law_405 : decode code 405 = .ok (.aload_n 0, 1) := by decide +kernel
theorem d_Law_law_406 : decode code 406 = .ok (.iload 4, 2) := by decide +kernel
theorem d_Law_law_408 : decode code 408 = .ok (.iconst 1, 1) := by decide +kernel
theorem d_Law_law_409 : decode code 409 = .ok (.iadd, 1) := by decide +kernel
theorem d_Law_law_410 : decode code 410 = .ok (.iaload, 1) := by decide +kernel
theorem d_Law_law_411 : decode code 411 = .ok (.aload_n 0, 1) := by decide +kernel
theorem d_Law_law_412 : decode code 412 = .ok (.iload 4, 2) := by decide +kernel
theorem d_Law_law_414 : decode code 414 = .ok (.iconst 2, 1) := by decide +kernel
theorem d_Law_law_415 : decode code 415 = .ok (.iadd, 1) := by decide +kernel
theorem d_Law_law_416 : decode code 416 = .ok (.iaload, 1) := by decide +kernel
theorem d_Law_law_417 : decode code 417 = .ok (.aload_n 3, 1) := by decide +kernel
theorem d_Law_law_418 : decode code 418 = .ok (.invokestatic 98, 3) := by decide +kernel
theorem d_Law_law_421 : decode code 421 = .ok (.istore 5, 2) := by decide +kernel
theorem d_Law_law_423 : decode code 423 = .ok (.aload_n 2, 1) := by decide +kernel
theorem d_Law_law_424 : decode code 424 = .ok (.aload_n 0, 1) := by decide +kernel
theorem d_Law_law_425 : decode code 425 = .ok (.iload 4, 2) := by decide +kernel
theorem d_Law_law_427 : decode code 427 = .ok (.iconst 1, 1) := by decide +kernel
theorem d_Law_law_428 : decode code 428 = .ok (.iadd, 1) := by decide +kernel
theorem d_Law_law_429 : decode code 429 = .ok (.iaload, 1) := by decide +kernel
theorem d_Law_law_430 : decode code 430 = .ok (.aload_n 0, 1) := by decide +kernel
theorem d_Law_law_431 : decode code 431 = .ok (.iload 4, 2) := by decide +kernel
theorem d_Law_law_433 : decode code 433 = .ok (.iconst 2, 1) := by decide +kernel
theorem d_Law_law_434 : decode code 434 = .ok (.iadd, 1) := by decide +kernel
theorem d_Law_law_435 : decode code 435 = .ok (.iaload, 1) := by decide +kernel
theorem d_Law_law_436 : decode code 436 = .ok (.invokevirtual 100, 3) := by decide +kernel
theorem d_Law_law_439 : decode code 439 = .ok (.istore 6, 2) := by decide +kernel
theorem d_Law_law_441 : decode code 441 = .ok (.aload_n 2, 1) := by decide +kernel
theorem d_Law_law_442 : decode code 442 = .ok (.invokevirtual 88, 3) := by decide +kernel
theorem d_Law_law_445 : decode code 445 = .ok (.iload 5, 2) := by decide +kernel
theorem d_Law_law_447 : decode code 447 = .ok (.if_icmp .eq 5, 3) := by decide +kernel
theorem d_Law_law_450 : decode code 450 = .ok (.iconst 0, 1) := by decide +kernel
theorem d_Law_law_451 : decode code 451 = .ok (.ireturn, 1) := by decide +kernel
theorem d_Law_law_452 : decode code 452 = .ok (.iload 5, 2) := by decide +kernel
theorem d_Law_law_454 : decode code 454 = .ok (.ifCond .ne 15, 3) := by decide +kernel
theorem d_Law_law_457 : decode code 457 = .ok (.aload_n 3, 1) := by decide +kernel
theorem d_Law_law_458 : decode code 458 = .ok (.iconst 0, 1) := by decide +kernel
theorem d_Law_law_459 : decode code 459 = .ok (.laload, 1) := by decide +kernel
theorem d_Law_law_460 : decode code 460 = .ok (.iload 6, 2) := by decide +kernel
theorem d_Law_law_462 : decode code 462 = .ok (.i2l, 1) := by decide +kernel
theorem d_Law_law_463 : decode code 463 = .ok (.lcmp, 1) := by decide +kernel
theorem d_Law_law_464 : decode code 464 = .ok (.ifCond .eq 5, 3) := by decide +kernel
theorem d_Law_law_467 : decode code 467 = .ok (.iconst 0, 1) := by decide +kernel
theorem d_Law_law_468 : decode code 468 = .ok (.ireturn, 1) := by decide +kernel
theorem d_Law_law_469 : decode code 469 = .ok (.goto 985, 3) := by decide +kernel
theorem d_Law_law_472 : decode code 472 = .ok (.aload_n 1, 1) := by decide +kernel
theorem d_Law_law_473 : decode code 473 = .ok (.invokevirtual 101, 3) := by decide +kernel
theorem d_Law_law_476 : decode code 476 = .ok (.aload_n 2, 1) := by decide +kernel
theorem d_Law_law_477 : decode code 477 = .ok (.invokevirtual 104, 3) := by decide +kernel
theorem d_Law_law_480 : decode code 480 = .ok (.if_icmp .eq 974, 3) := by decide +kernel
theorem d_Law_law_483 : decode code 483 = .ok (.iconst 0, 1) := by decide +kernel
theorem d_Law_law_484 : decode code 484 = .ok (.ireturn, 1) := by decide +kernel
theorem d_Law_law_485 : decode code 485 = .ok (.aload_n 1, 1) := by decide +kernel
theorem d_Law_law_486 : decode code 486 = .ok (.aload_n 0, 1) := by decide +kernel
theorem d_Law_law_487 : decode code 487 = .ok (.iload 4, 2) := by decide +kernel
theorem d_Law_law_489 : decode code 489 = .ok (.iconst 1, 1) := by decide +kernel
theorem d_Law_law_490 : decode code 490 = .ok (.iadd, 1) := by decide +kernel
theorem d_Law_law_491 : decode code 491 = .ok (.iaload, 1) := by decide +kernel
theorem d_Law_law_492 : decode code 492 = .ok (.aload_n 0, 1) := by decide +kernel
theorem d_Law_law_493 : decode code 493 = .ok (.iload 4, 2) := by decide +kernel
theorem d_Law_law_495 : decode code 495 = .ok (.iconst 2, 1) := by decide +kernel
theorem d_Law_law_496 : decode code 496 = .ok (.iadd, 1) := by decide +kernel
theorem d_Law_law_497 : decode code 497 = .ok (.iaload, 1) := by decide +kernel
theorem d_Law_law_498 : decode code 498 = .ok (.aload_n 3, 1) := by decide +kernel
theorem d_Law_law_499 : decode code 499 = .ok (.invokestatic 105, 3) := by decide +kernel
theorem d_Law_law_502 : decode code 502 = .ok (.istore 5, 2) := by decide +kernel
theorem d_Law_law_504 : decode code 504 = .ok (.aload_n 2, 1) := by decide +kernel
theorem d_Law_law_505 : decode code 505 = .ok (.aload_n 0, 1) := by decide +kernel
theorem d_Law_law_506 : decode code 506 = .ok (.iload 4, 2) := by decide +kernel
theorem d_Law_law_508 : decode code 508 = .ok (.iconst 1, 1) := by decide +kernel
theorem d_Law_law_509 : decode code 509 = .ok (.iadd, 1) := by decide +kernel
theorem d_Law_law_510 : decode code 510 = .ok (.iaload, 1) := by decide +kernel
theorem d_Law_law_511 : decode code 511 = .ok (.aload_n 0, 1) := by decide +kernel
theorem d_Law_law_512 : decode code 512 = .ok (.iload 4, 2) := by decide +kernel
theorem d_Law_law_514 : decode code 514 = .ok (.iconst 2, 1) := by decide +kernel
theorem d_Law_law_515 : decode code 515 = .ok (.iadd, 1) := by decide +kernel
theorem d_Law_law_516 : decode code 516 = .ok (.iaload, 1) := by decide +kernel
theorem d_Law_law_517 : decode code 517 = .ok (.invokevirtual 107, 3) := by decide +kernel
theorem d_Law_law_520 : decode code 520 = .ok (.istore 6, 2) := by decide +kernel
theorem d_Law_law_522 : decode code 522 = .ok (.aload_n 2, 1) := by decide +kernel
theorem d_Law_law_523 : decode code 523 = .ok (.invokevirtual 88, 3) := by decide +kernel
theorem d_Law_law_526 : decode code 526 = .ok (.iload 5, 2) := by decide +kernel
theorem d_Law_law_528 : decode code 528 = .ok (.if_icmp .eq 5, 3) := by decide +kernel
theorem d_Law_law_531 : decode code 531 = .ok (.iconst 0, 1) := by decide +kernel
theorem d_Law_law_532 : decode code 532 = .ok (.ireturn, 1) := by decide +kernel
theorem d_Law_law_533 : decode code 533 = .ok (.iload 5, 2) := by decide +kernel
theorem d_Law_law_535 : decode code 535 = .ok (.ifCond .ne 15, 3) := by decide +kernel
theorem d_Law_law_538 : decode code 538 = .ok (.aload_n 3, 1) := by decide +kernel
theorem d_Law_law_539 : decode code 539 = .ok (.iconst 0, 1) := by decide +kernel
theorem d_Law_law_540 : decode code 540 = .ok (.laload, 1) := by decide +kernel
theorem d_Law_law_541 : decode code 541 = .ok (.iload 6, 2) := by decide +kernel
theorem d_Law_law_543 : decode code 543 = .ok (.i2l, 1) := by decide +kernel
theorem d_Law_law_544 : decode code 544 = .ok (.lcmp, 1) := by decide +kernel
theorem d_Law_law_545 : decode code 545 = .ok (.ifCond .eq 5, 3) := by decide +kernel
theorem d_Law_law_548 : decode code 548 = .ok (.iconst 0, 1) := by decide +kernel
theorem d_Law_law_549 : decode code 549 = .ok (.ireturn, 1) := by decide +kernel
theorem d_Law_law_550 : decode code 550 = .ok (.goto 904, 3) := by decide +kernel
theorem d_Law_law_553 : decode code 553 = .ok (.aload_n 1, 1) := by decide +kernel
theorem d_Law_law_554 : decode code 554 = .ok (.aload_n 0, 1) := by decide +kernel
theorem d_Law_law_555 : decode code 555 = .ok (.iload 4, 2) := by decide +kernel
theorem d_Law_law_557 : decode code 557 = .ok (.iconst 1, 1) := by decide +kernel
theorem d_Law_law_558 : decode code 558 = .ok (.iadd, 1) := by decide +kernel
theorem d_Law_law_559 : decode code 559 = .ok (.iaload, 1) := by decide +kernel
theorem d_Law_law_560 : decode code 560 = .ok (.aload_n 0, 1) := by decide +kernel
theorem d_Law_law_561 : decode code 561 = .ok (.iload 4, 2) := by decide +kernel
theorem d_Law_law_563 : decode code 563 = .ok (.iconst 2, 1) := by decide +kernel
theorem d_Law_law_564 : decode code 564 = .ok (.iadd, 1) := by decide +kernel
theorem d_Law_law_565 : decode code 565 = .ok (.iaload, 1) := by decide +kernel
theorem d_Law_law_566 : decode code 566 = .ok (.aload_n 3, 1) := by decide +kernel
theorem d_Law_law_567 : decode code 567 = .ok (.invokestatic 108, 3) := by decide +kernel
theorem d_Law_law_570 : decode code 570 = .ok (.istore 5, 2) := by decide +kernel
theorem d_Law_law_572 : decode code 572 = .ok (.aload_n 2, 1) := by decide +kernel
theorem d_Law_law_573 : decode code 573 = .ok (.aload_n 0, 1) := by decide +kernel
theorem d_Law_law_574 : decode code 574 = .ok (.iload 4, 2) := by decide +kernel
theorem d_Law_law_576 : decode code 576 = .ok (.iconst 1, 1) := by decide +kernel
theorem d_Law_law_577 : decode code 577 = .ok (.iadd, 1) := by decide +kernel
theorem d_Law_law_578 : decode code 578 = .ok (.iaload, 1) := by decide +kernel
theorem d_Law_law_579 : decode code 579 = .ok (.aload_n 0, 1) := by decide +kernel
theorem d_Law_law_580 : decode code 580 = .ok (.iload 4, 2) := by decide +kernel
theorem d_Law_law_582 : decode code 582 = .ok (.iconst 2, 1) := by decide +kernel
theorem d_Law_law_583 : decode code 583 = .ok (.iadd, 1) := by decide +kernel
theorem d_Law_law_584 : decode code 584 = .ok (.iaload, 1) := by decide +kernel
theorem d_Law_law_585 : decode code 585 = .ok (.invokevirtual 110, 3) := by decide +kernel
theorem d_Law_law_588 : decode code 588 = .ok (.istore 6, 2) := by decide +kernel
theorem d_Law_law_590 : decode code 590 = .ok (.aload_n 2, 1) := by decide +kernel
theorem d_Law_law_591 : decode code 591 = .ok (.invokevirtual 88, 3) := by decide +kernel
theorem d_Law_law_594 : decode code 594 = .ok (.iload 5, 2) := by decide +kernel
theorem d_Law_law_596 : decode code 596 = .ok (.if_icmp .eq 5, 3) := by decide +kernel
theorem d_Law_law_599 : decode code 599 = .ok (.iconst 0, 1) := by decide +kernel
theorem d_Law_law_600 : decode code 600 = .ok (.ireturn, 1) := by decide +kernel
theorem d_Law_law_601 : decode code 601 = .ok (.iload 5, 2) := by decide +kernel
theorem d_Law_law_603 : decode code 603 = .ok (.ifCond .ne 15, 3) := by decide +kernel
theorem d_Law_law_606 : decode code 606 = .ok (.aload_n 3, 1) := by decide +kernel
theorem d_Law_law_607 : decode code 607 = .ok (.iconst 0, 1) := by decide +kernel
theorem d_Law_law_608 : decode code 608 = .ok (.laload, 1) := by decide +kernel
theorem d_Law_law_609 : decode code 609 = .ok (.iload 6, 2) := by decide +kernel
theorem d_Law_law_611 : decode code 611 = .ok (.i2l, 1) := by decide +kernel
theorem d_Law_law_612 : decode code 612 = .ok (.lcmp, 1) := by decide +kernel
theorem d_Law_law_613 : decode code 613 = .ok (.ifCond .eq 5, 3) := by decide +kernel
theorem d_Law_law_616 : decode code 616 = .ok (.iconst 0, 1) := by decide +kernel
theorem d_Law_law_617 : decode code 617 = .ok (.ireturn, 1) := by decide +kernel
theorem d_Law_law_618 : decode code 618 = .ok (.goto 836, 3) := by decide +kernel
theorem d_Law_law_621 : decode code 621 = .ok (.aload_n 1, 1) := by decide +kernel
theorem d_Law_law_622 : decode code 622 = .ok (.aload_n 0, 1) := by decide +kernel
theorem d_Law_law_623 : decode code 623 = .ok (.iload 4, 2) := by decide +kernel
theorem d_Law_law_625 : decode code 625 = .ok (.iconst 1, 1) := by decide +kernel
theorem d_Law_law_626 : decode code 626 = .ok (.iadd, 1) := by decide +kernel
theorem d_Law_law_627 : decode code 627 = .ok (.iaload, 1) := by decide +kernel
theorem d_Law_law_628 : decode code 628 = .ok (.aload_n 0, 1) := by decide +kernel
theorem d_Law_law_629 : decode code 629 = .ok (.iload 4, 2) := by decide +kernel
theorem d_Law_law_631 : decode code 631 = .ok (.iconst 2, 1) := by decide +kernel
theorem d_Law_law_632 : decode code 632 = .ok (.iadd, 1) := by decide +kernel
theorem d_Law_law_633 : decode code 633 = .ok (.iaload, 1) := by decide +kernel
theorem d_Law_law_634 : decode code 634 = .ok (.aload_n 3, 1) := by decide +kernel
theorem d_Law_law_635 : decode code 635 = .ok (.invokestatic 111, 3) := by decide +kernel
theorem d_Law_law_638 : decode code 638 = .ok (.istore 5, 2) := by decide +kernel
theorem d_Law_law_640 : decode code 640 = .ok (.aload_n 2, 1) := by decide +kernel
theorem d_Law_law_641 : decode code 641 = .ok (.aload_n 0, 1) := by decide +kernel
theorem d_Law_law_642 : decode code 642 = .ok (.iload 4, 2) := by decide +kernel
theorem d_Law_law_644 : decode code 644 = .ok (.iconst 1, 1) := by decide +kernel
theorem d_Law_law_645 : decode code 645 = .ok (.iadd, 1) := by decide +kernel
theorem d_Law_law_646 : decode code 646 = .ok (.iaload, 1) := by decide +kernel
theorem d_Law_law_647 : decode code 647 = .ok (.aload_n 0, 1) := by decide +kernel
theorem d_Law_law_648 : decode code 648 = .ok (.iload 4, 2) := by decide +kernel
theorem d_Law_law_650 : decode code 650 = .ok (.iconst 2, 1) := by decide +kernel
theorem d_Law_law_651 : decode code 651 = .ok (.iadd, 1) := by decide +kernel
theorem d_Law_law_652 : decode code 652 = .ok (.iaload, 1) := by decide +kernel
theorem d_Law_law_653 : decode code 653 = .ok (.invokevirtual 113, 3) := by decide +kernel
theorem d_Law_law_656 : decode code 656 = .ok (.istore 6, 2) := by decide +kernel
theorem d_Law_law_658 : decode code 658 = .ok (.aload_n 2, 1) := by decide +kernel
theorem d_Law_law_659 : decode code 659 = .ok (.invokevirtual 88, 3) := by decide +kernel
theorem d_Law_law_662 : decode code 662 = .ok (.iload 5, 2) := by decide +kernel
theorem d_Law_law_664 : decode code 664 = .ok (.if_icmp .eq 5, 3) := by decide +kernel
theorem d_Law_law_667 : decode code 667 = .ok (.iconst 0, 1) := by decide +kernel
theorem d_Law_law_668 : decode code 668 = .ok (.ireturn, 1) := by decide +kernel
theorem d_Law_law_669 : decode code 669 = .ok (.iload 5, 2) := by decide +kernel
theorem d_Law_law_671 : decode code 671 = .ok (.ifCond .ne 15, 3) := by decide +kernel
theorem d_Law_law_674 : decode code 674 = .ok (.aload_n 3, 1) := by decide +kernel
theorem d_Law_law_675 : decode code 675 = .ok (.iconst 0, 1) := by decide +kernel
theorem d_Law_law_676 : decode code 676 = .ok (.laload, 1) := by decide +kernel
theorem d_Law_law_677 : decode code 677 = .ok (.iload 6, 2) := by decide +kernel
theorem d_Law_law_679 : decode code 679 = .ok (.i2l, 1) := by decide +kernel
theorem d_Law_law_680 : decode code 680 = .ok (.lcmp, 1) := by decide +kernel
theorem d_Law_law_681 : decode code 681 = .ok (.ifCond .eq 5, 3) := by decide +kernel
theorem d_Law_law_684 : decode code 684 = .ok (.iconst 0, 1) := by decide +kernel
theorem d_Law_law_685 : decode code 685 = .ok (.ireturn, 1) := by decide +kernel
theorem d_Law_law_686 : decode code 686 = .ok (.goto 768, 3) := by decide +kernel
theorem d_Law_law_689 : decode code 689 = .ok (.aload_n 1, 1) := by decide +kernel
theorem d_Law_law_690 : decode code 690 = .ok (.aload_n 0, 1) := by decide +kernel
theorem d_Law_law_691 : decode code 691 = .ok (.iload 4, 2) := by decide +kernel
theorem d_Law_law_693 : decode code 693 = .ok (.iconst 1, 1) := by decide +kernel
theorem d_Law_law_694 : decode code 694 = .ok (.iadd, 1) := by decide +kernel
theorem d_Law_law_695 : decode code 695 = .ok (.iaload, 1) := by decide +kernel
theorem d_Law_law_696 : decode code 696 = .ok (.aload_n 3, 1) := by decide +kernel
theorem d_Law_law_697 : decode code 697 = .ok (.invokestatic 114, 3) := by decide +kernel
theorem d_Law_law_700 : decode code 700 = .ok (.istore 5, 2) := by decide +kernel
theorem d_Law_law_702 : decode code 702 = .ok (.aload_n 2, 1) := by decide +kernel
theorem d_Law_law_703 : decode code 703 = .ok (.aload_n 0, 1) := by decide +kernel
theorem d_Law_law_704 : decode code 704 = .ok (.iload 4, 2) := by decide +kernel
theorem d_Law_law_706 : decode code 706 = .ok (.iconst 1, 1) := by decide +kernel
theorem d_Law_law_707 : decode code 707 = .ok (.iadd, 1) := by decide +kernel
theorem d_Law_law_708 : decode code 708 = .ok (.iaload, 1) := by decide +kernel
theorem d_Law_law_709 : decode code 709 = .ok (.invokevirtual 117, 3) := by decide +kernel
theorem d_Law_law_712 : decode code 712 = .ok (.istore 6, 2) := by decide +kernel
theorem d_Law_law_714 : decode code 714 = .ok (.aload_n 2, 1) := by decide +kernel
theorem d_Law_law_715 : decode code 715 = .ok (.invokevirtual 88, 3) := by decide +kernel
theorem d_Law_law_718 : decode code 718 = .ok (.iload 5, 2) := by decide +kernel
theorem d_Law_law_720 : decode code 720 = .ok (.if_icmp .eq 5, 3) := by decide +kernel
theorem d_Law_law_723 : decode code 723 = .ok (.iconst 0, 1) := by decide +kernel
theorem d_Law_law_724 : decode code 724 = .ok (.ireturn, 1) := by decide +kernel
theorem d_Law_law_725 : decode code 725 = .ok (.iload 5, 2) := by decide +kernel
theorem d_Law_law_727 : decode code 727 = .ok (.ifCond .ne 15, 3) := by decide +kernel
theorem d_Law_law_730 : decode code 730 = .ok (.aload_n 3, 1) := by decide +kernel
theorem d_Law_law_731 : decode code 731 = .ok (.iconst 0, 1) := by decide +kernel
theorem d_Law_law_732 : decode code 732 = .ok (.laload, 1) := by decide +kernel
theorem d_Law_law_733 : decode code 733 = .ok (.iload 6, 2) := by decide +kernel
theorem d_Law_law_735 : decode code 735 = .ok (.i2l, 1) := by decide +kernel
theorem d_Law_law_736 : decode code 736 = .ok (.lcmp, 1) := by decide +kernel
theorem d_Law_law_737 : decode code 737 = .ok (.ifCond .eq 5, 3) := by decide +kernel
theorem d_Law_law_740 : decode code 740 = .ok (.iconst 0, 1) := by decide +kernel
theorem d_Law_law_741 : decode code 741 = .ok (.ireturn, 1) := by decide +kernel
theorem d_Law_law_742 : decode code 742 = .ok (.goto 712, 3) := by decide +kernel
theorem d_Law_law_745 : decode code 745 = .ok (.aload_n 1, 1) := by decide +kernel
theorem d_Law_law_746 : decode code 746 = .ok (.aload_n 0, 1) := by decide +kernel
theorem d_Law_law_747 : decode code 747 = .ok (.iload 4, 2) := by decide +kernel
theorem d_Law_law_749 : decode code 749 = .ok (.iconst 1, 1) := by decide +kernel
theorem d_Law_law_750 : decode code 750 = .ok (.iadd, 1) := by decide +kernel
theorem d_Law_law_751 : decode code 751 = .ok (.iaload, 1) := by decide +kernel
theorem d_Law_law_752 : decode code 752 = .ok (.aload_n 3, 1) := by decide +kernel
theorem d_Law_law_753 : decode code 753 = .ok (.invokestatic 118, 3) := by decide +kernel
theorem d_Law_law_756 : decode code 756 = .ok (.istore 5, 2) := by decide +kernel
theorem d_Law_law_758 : decode code 758 = .ok (.aload_n 2, 1) := by decide +kernel
theorem d_Law_law_759 : decode code 759 = .ok (.aload_n 0, 1) := by decide +kernel
theorem d_Law_law_760 : decode code 760 = .ok (.iload 4, 2) := by decide +kernel
theorem d_Law_law_762 : decode code 762 = .ok (.iconst 1, 1) := by decide +kernel
theorem d_Law_law_763 : decode code 763 = .ok (.iadd, 1) := by decide +kernel
theorem d_Law_law_764 : decode code 764 = .ok (.iaload, 1) := by decide +kernel
theorem d_Law_law_765 : decode code 765 = .ok (.invokevirtual 120, 3) := by decide +kernel
theorem d_Law_law_768 : decode code 768 = .ok (.istore 6, 2) := by decide +kernel
theorem d_Law_law_770 : decode code 770 = .ok (.aload_n 2, 1) := by decide +kernel
theorem d_Law_law_771 : decode code 771 = .ok (.invokevirtual 88, 3) := by decide +kernel
theorem d_Law_law_774 : decode code 774 = .ok (.iload 5, 2) := by decide +kernel
theorem d_Law_law_776 : decode code 776 = .ok (.if_icmp .eq 5, 3) := by decide +kernel
theorem d_Law_law_779 : decode code 779 = .ok (.iconst 0, 1) := by decide +kernel
theorem d_Law_law_780 : decode code 780 = .ok (.ireturn, 1) := by decide +kernel
theorem d_Law_law_781 : decode code 781 = .ok (.iload 5, 2) := by decide +kernel
theorem d_Law_law_783 : decode code 783 = .ok (.ifCond .ne 15, 3) := by decide +kernel
theorem d_Law_law_786 : decode code 786 = .ok (.aload_n 3, 1) := by decide +kernel
theorem d_Law_law_787 : decode code 787 = .ok (.iconst 0, 1) := by decide +kernel
theorem d_Law_law_788 : decode code 788 = .ok (.laload, 1) := by decide +kernel
theorem d_Law_law_789 : decode code 789 = .ok (.iload 6, 2) := by decide +kernel
theorem d_Law_law_791 : decode code 791 = .ok (.i2l, 1) := by decide +kernel
theorem d_Law_law_792 : decode code 792 = .ok (.lcmp, 1) := by decide +kernel
theorem d_Law_law_793 : decode code 793 = .ok (.ifCond .eq 5, 3) := by decide +kernel
theorem d_Law_law_796 : decode code 796 = .ok (.iconst 0, 1) := by decide +kernel
theorem d_Law_law_797 : decode code 797 = .ok (.ireturn, 1) := by decide +kernel
theorem d_Law_law_798 : decode code 798 = .ok (.goto 656, 3) := by decide +kernel
theorem d_Law_law_801 : decode code 801 = .ok (.aload_n 1, 1) := by decide +kernel
theorem d_Law_law_802 : decode code 802 = .ok (.aload_n 0, 1) := by decide +kernel
theorem d_Law_law_803 : decode code 803 = .ok (.iload 4, 2) := by decide +kernel
theorem d_Law_law_805 : decode code 805 = .ok (.iconst 1, 1) := by decide +kernel
theorem d_Law_law_806 : decode code 806 = .ok (.iadd, 1) := by decide +kernel
theorem d_Law_law_807 : decode code 807 = .ok (.iaload, 1) := by decide +kernel
theorem d_Law_law_808 : decode code 808 = .ok (.aload_n 0, 1) := by decide +kernel
theorem d_Law_law_809 : decode code 809 = .ok (.iload 4, 2) := by decide +kernel
theorem d_Law_law_811 : decode code 811 = .ok (.iconst 2, 1) := by decide +kernel
theorem d_Law_law_812 : decode code 812 = .ok (.iadd, 1) := by decide +kernel
theorem d_Law_law_813 : decode code 813 = .ok (.iaload, 1) := by decide +kernel
theorem d_Law_law_814 : decode code 814 = .ok (.aload_n 3, 1) := by decide +kernel
theorem d_Law_law_815 : decode code 815 = .ok (.invokestatic 121, 3) := by decide +kernel
theorem d_Law_law_818 : decode code 818 = .ok (.istore 5, 2) := by decide +kernel
theorem d_Law_law_820 : decode code 820 = .ok (.aload_n 2, 1) := by decide +kernel
theorem d_Law_law_821 : decode code 821 = .ok (.aload_n 0, 1) := by decide +kernel
theorem d_Law_law_822 : decode code 822 = .ok (.iload 4, 2) := by decide +kernel
theorem d_Law_law_824 : decode code 824 = .ok (.iconst 1, 1) := by decide +kernel
theorem d_Law_law_825 : decode code 825 = .ok (.iadd, 1) := by decide +kernel
theorem d_Law_law_826 : decode code 826 = .ok (.iaload, 1) := by decide +kernel
theorem d_Law_law_827 : decode code 827 = .ok (.aload_n 0, 1) := by decide +kernel
theorem d_Law_law_828 : decode code 828 = .ok (.iload 4, 2) := by decide +kernel
theorem d_Law_law_830 : decode code 830 = .ok (.iconst 2, 1) := by decide +kernel
theorem d_Law_law_831 : decode code 831 = .ok (.iadd, 1) := by decide +kernel
theorem d_Law_law_832 : decode code 832 = .ok (.iaload, 1) := by decide +kernel
theorem d_Law_law_833 : decode code 833 = .ok (.invokevirtual 123, 3) := by decide +kernel
theorem d_Law_law_836 : decode code 836 = .ok (.istore 6, 2) := by decide +kernel
theorem d_Law_law_838 : decode code 838 = .ok (.aload_n 2, 1) := by decide +kernel
theorem d_Law_law_839 : decode code 839 = .ok (.invokevirtual 88, 3) := by decide +kernel
theorem d_Law_law_842 : decode code 842 = .ok (.iload 5, 2) := by decide +kernel
theorem d_Law_law_844 : decode code 844 = .ok (.if_icmp .eq 5, 3) := by decide +kernel
theorem d_Law_law_847 : decode code 847 = .ok (.iconst 0, 1) := by decide +kernel
theorem d_Law_law_848 : decode code 848 = .ok (.ireturn, 1) := by decide +kernel
theorem d_Law_law_849 : decode code 849 = .ok (.iload 5, 2) := by decide +kernel
theorem d_Law_law_851 : decode code 851 = .ok (.ifCond .ne 15, 3) := by decide +kernel
theorem d_Law_law_854 : decode code 854 = .ok (.aload_n 3, 1) := by decide +kernel
theorem d_Law_law_855 : decode code 855 = .ok (.iconst 0, 1) := by decide +kernel
theorem d_Law_law_856 : decode code 856 = .ok (.laload, 1) := by decide +kernel
theorem d_Law_law_857 : decode code 857 = .ok (.iload 6, 2) := by decide +kernel
theorem d_Law_law_859 : decode code 859 = .ok (.i2l, 1) := by decide +kernel
theorem d_Law_law_860 : decode code 860 = .ok (.lcmp, 1) := by decide +kernel
theorem d_Law_law_861 : decode code 861 = .ok (.ifCond .eq 5, 3) := by decide +kernel
theorem d_Law_law_864 : decode code 864 = .ok (.iconst 0, 1) := by decide +kernel
theorem d_Law_law_865 : decode code 865 = .ok (.ireturn, 1) := by decide +kernel
theorem d_Law_law_866 : decode code 866 = .ok (.goto 588, 3) := by decide +kernel
theorem d_Law_law_869 : decode code 869 = .ok (.aload_n 1, 1) := by decide +kernel
theorem d_Law_law_870 : decode code 870 = .ok (.aload_n 0, 1) := by decide +kernel
theorem d_Law_law_871 : decode code 871 = .ok (.iload 4, 2) := by decide +kernel
theorem d_Law_law_873 : decode code 873 = .ok (.iconst 1, 1) := by decide +kernel
theorem d_Law_law_874 : decode code 874 = .ok (.iadd, 1) := by decide +kernel
theorem d_Law_law_875 : decode code 875 = .ok (.iaload, 1) := by decide +kernel
theorem d_Law_law_876 : decode code 876 = .ok (.aload_n 3, 1) := by decide +kernel
theorem d_Law_law_877 : decode code 877 = .ok (.invokestatic 124, 3) := by decide +kernel
theorem d_Law_law_880 : decode code 880 = .ok (.istore 5, 2) := by decide +kernel
theorem d_Law_law_882 : decode code 882 = .ok (.aload_n 2, 1) := by decide +kernel
theorem d_Law_law_883 : decode code 883 = .ok (.aload_n 0, 1) := by decide +kernel
theorem d_Law_law_884 : decode code 884 = .ok (.iload 4, 2) := by decide +kernel
theorem d_Law_law_886 : decode code 886 = .ok (.iconst 1, 1) := by decide +kernel
theorem d_Law_law_887 : decode code 887 = .ok (.iadd, 1) := by decide +kernel
theorem d_Law_law_888 : decode code 888 = .ok (.iaload, 1) := by decide +kernel
theorem d_Law_law_889 : decode code 889 = .ok (.invokevirtual 126, 3) := by decide +kernel
theorem d_Law_law_892 : decode code 892 = .ok (.istore 6, 2) := by decide +kernel
theorem d_Law_law_894 : decode code 894 = .ok (.aload_n 2, 1) := by decide +kernel
theorem d_Law_law_895 : decode code 895 = .ok (.invokevirtual 88, 3) := by decide +kernel
theorem d_Law_law_898 : decode code 898 = .ok (.iload 5, 2) := by decide +kernel
theorem d_Law_law_900 : decode code 900 = .ok (.if_icmp .eq 5, 3) := by decide +kernel
theorem d_Law_law_903 : decode code 903 = .ok (.iconst 0, 1) := by decide +kernel
theorem d_Law_law_904 : decode code 904 = .ok (.ireturn, 1) := by decide +kernel
theorem d_Law_law_905 : decode code 905 = .ok (.iload 5, 2) := by decide +kernel
theorem d_Law_law_907 : decode code 907 = .ok (.ifCond .ne 15, 3) := by decide +kernel
theorem d_Law_law_910 : decode code 910 = .ok (.aload_n 3, 1) := by decide +kernel
theorem d_Law_law_911 : decode code 911 = .ok (.iconst 0, 1) := by decide +kernel
theorem d_Law_law_912 : decode code 912 = .ok (.laload, 1) := by decide +kernel
theorem d_Law_law_913 : decode code 913 = .ok (.iload 6, 2) := by decide +kernel
theorem d_Law_law_915 : decode code 915 = .ok (.i2l, 1) := by decide +kernel
theorem d_Law_law_916 : decode code 916 = .ok (.lcmp, 1) := by decide +kernel
theorem d_Law_law_917 : decode code 917 = .ok (.ifCond .eq 5, 3) := by decide +kernel
theorem d_Law_law_920 : decode code 920 = .ok (.iconst 0, 1) := by decide +kernel
theorem d_Law_law_921 : decode code 921 = .ok (.ireturn, 1) := by decide +kernel
theorem d_Law_law_922 : decode code 922 = .ok (.goto 532, 3) := by decide +kernel
theorem d_Law_law_925 : decode code 925 = .ok (.aload_n 1, 1) := by decide +kernel
theorem d_Law_law_926 : decode code 926 = .ok (.invokevirtual 127, 3) := by decide +kernel
theorem d_Law_law_929 : decode code 929 = .ok (.aload_n 2, 1) := by decide +kernel
theorem d_Law_law_930 : decode code 930 = .ok (.invokevirtual 130, 3) := by decide +kernel
theorem d_Law_law_933 : decode code 933 = .ok (.if_icmp .eq 521, 3) := by decide +kernel
theorem d_Law_law_936 : decode code 936 = .ok (.iconst 0, 1) := by decide +kernel
theorem d_Law_law_937 : decode code 937 = .ok (.ireturn, 1) := by decide +kernel
theorem d_Law_law_938 : decode code 938 = .ok (.aload_n 1, 1) := by decide +kernel
theorem d_Law_law_939 : decode code 939 = .ok (.invokevirtual 131, 3) := by decide +kernel
theorem d_Law_law_942 : decode code 942 = .ok (.aload_n 2, 1) := by decide +kernel
theorem d_Law_law_943 : decode code 943 = .ok (.invokevirtual 134, 3) := by decide +kernel
theorem d_Law_law_946 : decode code 946 = .ok (.if_icmp .eq 508, 3) := by decide +kernel
theorem d_Law_law_949 : decode code 949 = .ok (.iconst 0, 1) := by decide +kernel
theorem d_Law_law_950 : decode code 950 = .ok (.ireturn, 1) := by decide +kernel
theorem d_Law_law_951 : decode code 951 = .ok (.aload_n 1, 1) := by decide +kernel
theorem d_Law_law_952 : decode code 952 = .ok (.invokevirtual 135, 3) := by decide +kernel
theorem d_Law_law_955 : decode code 955 = .ok (.aload_n 2, 1) := by decide +kernel
theorem d_Law_law_956 : decode code 956 = .ok (.invokevirtual 138, 3) := by decide +kernel
theorem d_Law_law_959 : decode code 959 = .ok (.if_icmp .eq 495, 3) := by decide +kernel
theorem d_Law_law_962 : decode code 962 = .ok (.iconst 0, 1) := by decide +kernel
theorem d_Law_law_963 : decode code 963 = .ok (.ireturn, 1) := by decide +kernel
theorem d_Law_law_964 : decode code 964 = .ok (.aload_n 1, 1) := by decide +kernel
theorem d_Law_law_965 : decode code 965 = .ok (.aload_n 0, 1) := by decide +kernel
theorem d_Law_law_966 : decode code 966 = .ok (.iload 4, 2) := by decide +kernel
theorem d_Law_law_968 : decode code 968 = .ok (.iconst 1, 1) := by decide +kernel
theorem d_Law_law_969 : decode code 969 = .ok (.iadd, 1) := by decide +kernel
theorem d_Law_law_970 : decode code 970 = .ok (.iaload, 1) := by decide +kernel
theorem d_Law_law_971 : decode code 971 = .ok (.aload_n 0, 1) := by decide +kernel
theorem d_Law_law_972 : decode code 972 = .ok (.iload 4, 2) := by decide +kernel
theorem d_Law_law_974 : decode code 974 = .ok (.iconst 2, 1) := by decide +kernel
theorem d_Law_law_975 : decode code 975 = .ok (.iadd, 1) := by decide +kernel
theorem d_Law_law_976 : decode code 976 = .ok (.iaload, 1) := by decide +kernel
theorem d_Law_law_977 : decode code 977 = .ok (.aload_n 3, 1) := by decide +kernel
theorem d_Law_law_978 : decode code 978 = .ok (.invokestatic 139, 3) := by decide +kernel
theorem d_Law_law_981 : decode code 981 = .ok (.istore 5, 2) := by decide +kernel
theorem d_Law_law_983 : decode code 983 = .ok (.aload_n 2, 1) := by decide +kernel
theorem d_Law_law_984 : decode code 984 = .ok (.aload_n 0, 1) := by decide +kernel
theorem d_Law_law_985 : decode code 985 = .ok (.iload 4, 2) := by decide +kernel
theorem d_Law_law_987 : decode code 987 = .ok (.iconst 1, 1) := by decide +kernel
theorem d_Law_law_988 : decode code 988 = .ok (.iadd, 1) := by decide +kernel
theorem d_Law_law_989 : decode code 989 = .ok (.iaload, 1) := by decide +kernel
theorem d_Law_law_990 : decode code 990 = .ok (.aload_n 0, 1) := by decide +kernel
theorem d_Law_law_991 : decode code 991 = .ok (.iload 4, 2) := by decide +kernel
theorem d_Law_law_993 : decode code 993 = .ok (.iconst 2, 1) := by decide +kernel
theorem d_Law_law_994 : decode code 994 = .ok (.iadd, 1) := by decide +kernel
theorem d_Law_law_995 : decode code 995 = .ok (.iaload, 1) := by decide +kernel
theorem d_Law_law_996 : decode code 996 = .ok (.invokevirtual 141, 3) := by decide +kernel
theorem d_Law_law_999 : decode code 999 = .ok (.istore 6, 2) := by decide +kernel
theorem d_Law_law_1001 : decode code 1001 = .ok (.aload_n 2, 1) := by decide +kernel
theorem d_Law_law_1002 : decode code 1002 = .ok (.invokevirtual 88, 3) := by decide +kernel
theorem d_Law_law_1005 : decode code 1005 = .ok (.iload 5, 2) := by decide +kernel
theorem d_Law_law_1007 : decode code 1007 = .ok (.if_icmp .eq 5, 3) := by decide +kernel
theorem d_Law_law_1010 : decode code 1010 = .ok (.iconst 0, 1) := by decide +kernel
theorem d_Law_law_1011 : decode code 1011 = .ok (.ireturn, 1) := by decide +kernel
theorem d_Law_law_1012 : decode code 1012 = .ok (.iload 5, 2) := by decide +kernel
theorem d_Law_law_1014 : decode code 1014 = .ok (.ifCond .ne 15, 3) := by decide +kernel
theorem d_Law_law_1017 : decode code 1017 = .ok (.aload_n 3, 1) := by decide +kernel
theorem d_Law_law_1018 : decode code 1018 = .ok (.iconst 0, 1) := by decide +kernel
theorem d_Law_law_1019 : decode code 1019 = .ok (.laload, 1) := by decide +kernel
theorem d_Law_law_1020 : decode code 1020 = .ok (.iload 6, 2) := by decide +kernel
theorem d_Law_law_1022 : decode code 1022 = .ok (.i2l, 1) := by decide +kernel
theorem d_Law_law_1023 : decode code 1023 = .ok (.lcmp, 1) := by decide +kernel
theorem d_Law_law_1024 : decode code 1024 = .ok (.ifCond .eq 5, 3) := by decide +kernel
theorem d_Law_law_1027 : decode code 1027 = .ok (.iconst 0, 1) := by decide +kernel
theorem d_Law_law_1028 : decode code 1028 = .ok (.ireturn, 1) := by decide +kernel
theorem d_Law_law_1029 : decode code 1029 = .ok (.goto 425, 3) := by decide +kernel
theorem d_Law_law_1032 : decode code 1032 = .ok (.aload_n 1, 1) := by decide +kernel
theorem d_Law_law_1033 : decode code 1033 = .ok (.aload_n 0, 1) := by decide +kernel
theorem d_Law_law_1034 : decode code 1034 = .ok (.iload 4, 2) := by decide +kernel
theorem d_Law_law_1036 : decode code 1036 = .ok (.iconst 1, 1) := by decide +kernel
theorem d_Law_law_1037 : decode code 1037 = .ok (.iadd, 1) := by decide +kernel
theorem d_Law_law_1038 : decode code 1038 = .ok (.iaload, 1) := by decide +kernel
theorem d_Law_law_1039 : decode code 1039 = .ok (.aload_n 3, 1) := by decide +kernel
theorem d_Law_law_1040 : decode code 1040 = .ok (.invokestatic 142, 3) := by decide +kernel
theorem d_Law_law_1043 : decode code 1043 = .ok (.istore 5, 2) := by decide +kernel
theorem d_Law_law_1045 : decode code 1045 = .ok (.aload_n 2, 1) := by decide +kernel
theorem d_Law_law_1046 : decode code 1046 = .ok (.aload_n 0, 1) := by decide +kernel
theorem d_Law_law_1047 : decode code 1047 = .ok (.iload 4, 2) := by decide +kernel
theorem d_Law_law_1049 : decode code 1049 = .ok (.iconst 1, 1) := by decide +kernel
theorem d_Law_law_1050 : decode code 1050 = .ok (.iadd, 1) := by decide +kernel
theorem d_Law_law_1051 : decode code 1051 = .ok (.iaload, 1) := by decide +kernel
theorem d_Law_law_1052 : decode code 1052 = .ok (.invokevirtual 144, 3) := by decide +kernel
theorem d_Law_law_1055 : decode code 1055 = .ok (.istore 6, 2) := by decide +kernel
theorem d_Law_law_1057 : decode code 1057 = .ok (.aload_n 2, 1) := by decide +kernel
theorem d_Law_law_1058 : decode code 1058 = .ok (.invokevirtual 88, 3) := by decide +kernel
theorem d_Law_law_1061 : decode code 1061 = .ok (.iload 5, 2) := by decide +kernel
theorem d_Law_law_1063 : decode code 1063 = .ok (.if_icmp .eq 5, 3) := by decide +kernel
theorem d_Law_law_1066 : decode code 1066 = .ok (.iconst 0, 1) := by decide +kernel
theorem d_Law_law_1067 : decode code 1067 = .ok (.ireturn, 1) := by decide +kernel
theorem d_Law_law_1068 : decode code 1068 = .ok (.iload 5, 2) := by decide +kernel
theorem d_Law_law_1070 : decode code 1070 = .ok (.ifCond .ne 15, 3) := by decide +kernel
theorem d_Law_law_1073 : decode code 1073 = .ok (.aload_n 3, 1) := by decide +kernel
theorem d_Law_law_1074 : decode code 1074 = .ok (.iconst 0, 1) := by decide +kernel
theorem d_Law_law_1075 : decode code 1075 = .ok (.laload, 1) := by decide +kernel
theorem d_Law_law_1076 : decode code 1076 = .ok (.iload 6, 2) := by decide +kernel
theorem d_Law_law_1078 : decode code 1078 = .ok (.i2l, 1) := by decide +kernel
theorem d_Law_law_1079 : decode code 1079 = .ok (.lcmp, 1) := by decide +kernel
theorem d_Law_law_1080 : decode code 1080 = .ok (.ifCond .eq 5, 3) := by decide +kernel
theorem d_Law_law_1083 : decode code 1083 = .ok (.iconst 0, 1) := by decide +kernel
theorem d_Law_law_1084 : decode code 1084 = .ok (.ireturn, 1) := by decide +kernel
theorem d_Law_law_1085 : decode code 1085 = .ok (.goto 369, 3) := by decide +kernel
theorem d_Law_law_1088 : decode code 1088 = .ok (.aload_n 1, 1) := by decide +kernel
theorem d_Law_law_1089 : decode code 1089 = .ok (.aload_n 0, 1) := by decide +kernel
theorem d_Law_law_1090 : decode code 1090 = .ok (.iload 4, 2) := by decide +kernel
theorem d_Law_law_1092 : decode code 1092 = .ok (.iconst 1, 1) := by decide +kernel
theorem d_Law_law_1093 : decode code 1093 = .ok (.iadd, 1) := by decide +kernel
theorem d_Law_law_1094 : decode code 1094 = .ok (.iaload, 1) := by decide +kernel
theorem d_Law_law_1095 : decode code 1095 = .ok (.aload_n 3, 1) := by decide +kernel
theorem d_Law_law_1096 : decode code 1096 = .ok (.invokestatic 145, 3) := by decide +kernel
theorem d_Law_law_1099 : decode code 1099 = .ok (.istore 5, 2) := by decide +kernel
theorem d_Law_law_1101 : decode code 1101 = .ok (.aload_n 2, 1) := by decide +kernel
theorem d_Law_law_1102 : decode code 1102 = .ok (.aload_n 0, 1) := by decide +kernel
theorem d_Law_law_1103 : decode code 1103 = .ok (.iload 4, 2) := by decide +kernel
theorem d_Law_law_1105 : decode code 1105 = .ok (.iconst 1, 1) := by decide +kernel
theorem d_Law_law_1106 : decode code 1106 = .ok (.iadd, 1) := by decide +kernel
theorem d_Law_law_1107 : decode code 1107 = .ok (.iaload, 1) := by decide +kernel
theorem d_Law_law_1108 : decode code 1108 = .ok (.invokevirtual 147, 3) := by decide +kernel
theorem d_Law_law_1111 : decode code 1111 = .ok (.istore 6, 2) := by decide +kernel
theorem d_Law_law_1113 : decode code 1113 = .ok (.aload_n 2, 1) := by decide +kernel
theorem d_Law_law_1114 : decode code 1114 = .ok (.invokevirtual 88, 3) := by decide +kernel
theorem d_Law_law_1117 : decode code 1117 = .ok (.iload 5, 2) := by decide +kernel
theorem d_Law_law_1119 : decode code 1119 = .ok (.if_icmp .eq 5, 3) := by decide +kernel
theorem d_Law_law_1122 : decode code 1122 = .ok (.iconst 0, 1) := by decide +kernel
theorem d_Law_law_1123 : decode code 1123 = .ok (.ireturn, 1) := by decide +kernel
theorem d_Law_law_1124 : decode code 1124 = .ok (.iload 5, 2) := by decide +kernel
theorem d_Law_law_1126 : decode code 1126 = .ok (.ifCond .ne 15, 3) := by decide +kernel
theorem d_Law_law_1129 : decode code 1129 = .ok (.aload_n 3, 1) := by decide +kernel
theorem d_Law_law_1130 : decode code 1130 = .ok (.iconst 0, 1) := by decide +kernel
theorem d_Law_law_1131 : decode code 1131 = .ok (.laload, 1) := by decide +kernel
theorem d_Law_law_1132 : decode code 1132 = .ok (.iload 6, 2) := by decide +kernel
theorem d_Law_law_1134 : decode code 1134 = .ok (.i2l, 1) := by decide +kernel
theorem d_Law_law_1135 : decode code 1135 = .ok (.lcmp, 1) := by decide +kernel
theorem d_Law_law_1136 : decode code 1136 = .ok (.ifCond .eq 5, 3) := by decide +kernel
theorem d_Law_law_1139 : decode code 1139 = .ok (.iconst 0, 1) := by decide +kernel
theorem d_Law_law_1140 : decode code 1140 = .ok (.ireturn, 1) := by decide +kernel
theorem d_Law_law_1141 : decode code 1141 = .ok (.goto 313, 3) := by decide +kernel
theorem d_Law_law_1144 : decode code 1144 = .ok (.aload_n 1, 1) := by decide +kernel
theorem d_Law_law_1145 : decode code 1145 = .ok (.invokevirtual 148, 3) := by decide +kernel
theorem d_Law_law_1148 : decode code 1148 = .ok (.aload_n 2, 1) := by decide +kernel
theorem d_Law_law_1149 : decode code 1149 = .ok (.invokevirtual 151, 3) := by decide +kernel
theorem d_Law_law_1152 : decode code 1152 = .ok (.if_icmp .eq 302, 3) := by decide +kernel
theorem d_Law_law_1155 : decode code 1155 = .ok (.iconst 0, 1) := by decide +kernel
theorem d_Law_law_1156 : decode code 1156 = .ok (.ireturn, 1) := by decide +kernel
theorem d_Law_law_1157 : decode code 1157 = .ok (.aload_n 1, 1) := by decide +kernel
theorem d_Law_law_1158 : decode code 1158 = .ok (.aload_n 0, 1) := by decide +kernel
theorem d_Law_law_1159 : decode code 1159 = .ok (.iload 4, 2) := by decide +kernel
theorem d_Law_law_1161 : decode code 1161 = .ok (.iconst 1, 1) := by decide +kernel
theorem d_Law_law_1162 : decode code 1162 = .ok (.iadd, 1) := by decide +kernel
theorem d_Law_law_1163 : decode code 1163 = .ok (.iaload, 1) := by decide +kernel
theorem d_Law_law_1164 : decode code 1164 = .ok (.aload_n 3, 1) := by decide +kernel
theorem d_Law_law_1165 : decode code 1165 = .ok (.invokestatic 152, 3) := by decide +kernel
theorem d_Law_law_1168 : decode code 1168 = .ok (.istore 5, 2) := by decide +kernel
theorem d_Law_law_1170 : decode code 1170 = .ok (.aload_n 2, 1) := by decide +kernel
theorem d_Law_law_1171 : decode code 1171 = .ok (.aload_n 0, 1) := by decide +kernel
theorem d_Law_law_1172 : decode code 1172 = .ok (.iload 4, 2) := by decide +kernel
theorem d_Law_law_1174 : decode code 1174 = .ok (.iconst 1, 1) := by decide +kernel
theorem d_Law_law_1175 : decode code 1175 = .ok (.iadd, 1) := by decide +kernel
theorem d_Law_law_1176 : decode code 1176 = .ok (.iaload, 1) := by decide +kernel
theorem d_Law_law_1177 : decode code 1177 = .ok (.invokevirtual 154, 3) := by decide +kernel
theorem d_Law_law_1180 : decode code 1180 = .ok (.istore 6, 2) := by decide +kernel
theorem d_Law_law_1182 : decode code 1182 = .ok (.aload_n 2, 1) := by decide +kernel
theorem d_Law_law_1183 : decode code 1183 = .ok (.invokevirtual 88, 3) := by decide +kernel
theorem d_Law_law_1186 : decode code 1186 = .ok (.iload 5, 2) := by decide +kernel
theorem d_Law_law_1188 : decode code 1188 = .ok (.if_icmp .eq 5, 3) := by decide +kernel
theorem d_Law_law_1191 : decode code 1191 = .ok (.iconst 0, 1) := by decide +kernel
theorem d_Law_law_1192 : decode code 1192 = .ok (.ireturn, 1) := by decide +kernel
theorem d_Law_law_1193 : decode code 1193 = .ok (.iload 5, 2) := by decide +kernel
theorem d_Law_law_1195 : decode code 1195 = .ok (.ifCond .ne 15, 3) := by decide +kernel
theorem d_Law_law_1198 : decode code 1198 = .ok (.aload_n 3, 1) := by decide +kernel
theorem d_Law_law_1199 : decode code 1199 = .ok (.iconst 0, 1) := by decide +kernel
theorem d_Law_law_1200 : decode code 1200 = .ok (.laload, 1) := by decide +kernel
theorem d_Law_law_1201 : decode code 1201 = .ok (.iload 6, 2) := by decide +kernel
theorem d_Law_law_1203 : decode code 1203 = .ok (.i2l, 1) := by decide +kernel
theorem d_Law_law_1204 : decode code 1204 = .ok (.lcmp, 1) := by decide +kernel
theorem d_Law_law_1205 : decode code 1205 = .ok (.ifCond .eq 5, 3) := by decide +kernel
theorem d_Law_law_1208 : decode code 1208 = .ok (.iconst 0, 1) := by decide +kernel
theorem d_Law_law_1209 : decode code 1209 = .ok (.ireturn, 1) := by decide +kernel
theorem d_Law_law_1210 : decode code 1210 = .ok (.goto 244, 3) := by decide +kernel
theorem d_Law_law_1213 : decode code 1213 = .ok (.aload_n 1, 1) := by decide +kernel
theorem d_Law_law_1214 : decode code 1214 = .ok (.invokevirtual 155, 3) := by decide +kernel
theorem d_Law_law_1217 : decode code 1217 = .ok (.aload_n 2, 1) := by decide +kernel
theorem d_Law_law_1218 : decode code 1218 = .ok (.invokevirtual 158, 3) := by decide +kernel
theorem d_Law_law_1221 : decode code 1221 = .ok (.if_icmp .eq 233, 3) := by decide +kernel
theorem d_Law_law_1224 : decode code 1224 = .ok (.iconst 0, 1) := by decide +kernel
theorem d_Law_law_1225 : decode code 1225 = .ok (.ireturn, 1) := by decide +kernel
theorem d_Law_law_1226 : decode code 1226 = .ok (.aload_n 1, 1) := by decide +kernel
theorem d_Law_law_1227 : decode code 1227 = .ok (.aload_n 0, 1) := by decide +kernel
theorem d_Law_law_1228 : decode code 1228 = .ok (.iload 4, 2) := by decide +kernel
theorem d_Law_law_1230 : decode code 1230 = .ok (.iconst 1, 1) := by decide +kernel
theorem d_Law_law_1231 : decode code 1231 = .ok (.iadd, 1) := by decide +kernel
theorem d_Law_law_1232 : decode code 1232 = .ok (.iaload, 1) := by decide +kernel
theorem d_Law_law_1233 : decode code 1233 = .ok (.aload_n 0, 1) := by decide +kernel
theorem d_Law_law_1234 : decode code 1234 = .ok (.iload 4, 2) := by decide +kernel
theorem d_Law_law_1236 : decode code 1236 = .ok (.iconst 2, 1) := by decide +kernel
theorem d_Law_law_1237 : decode code 1237 = .ok (.iadd, 1) := by decide +kernel
theorem d_Law_law_1238 : decode code 1238 = .ok (.iaload, 1) := by decide +kernel
theorem d_Law_law_1239 : decode code 1239 = .ok (.aload_n 3, 1) := by decide +kernel
theorem d_Law_law_1240 : decode code 1240 = .ok (.invokestatic 159, 3) := by decide +kernel
theorem d_Law_law_1243 : decode code 1243 = .ok (.istore 5, 2) := by decide +kernel
theorem d_Law_law_1245 : decode code 1245 = .ok (.aload_n 2, 1) := by decide +kernel
theorem d_Law_law_1246 : decode code 1246 = .ok (.aload_n 0, 1) := by decide +kernel
theorem d_Law_law_1247 : decode code 1247 = .ok (.iload 4, 2) := by decide +kernel
theorem d_Law_law_1249 : decode code 1249 = .ok (.iconst 1, 1) := by decide +kernel
theorem d_Law_law_1250 : decode code 1250 = .ok (.iadd, 1) := by decide +kernel
theorem d_Law_law_1251 : decode code 1251 = .ok (.iaload, 1) := by decide +kernel
theorem d_Law_law_1252 : decode code 1252 = .ok (.aload_n 0, 1) := by decide +kernel
theorem d_Law_law_1253 : decode code 1253 = .ok (.iload 4, 2) := by decide +kernel
theorem d_Law_law_1255 : decode code 1255 = .ok (.iconst 2, 1) := by decide +kernel
theorem d_Law_law_1256 : decode code 1256 = .ok (.iadd, 1) := by decide +kernel
theorem d_Law_law_1257 : decode code 1257 = .ok (.iaload, 1) := by decide +kernel
theorem d_Law_law_1258 : decode code 1258 = .ok (.invokevirtual 161, 3) := by decide +kernel
theorem d_Law_law_1261 : decode code 1261 = .ok (.istore 6, 2) := by decide +kernel
theorem d_Law_law_1263 : decode code 1263 = .ok (.aload_n 2, 1) := by decide +kernel
theorem d_Law_law_1264 : decode code 1264 = .ok (.invokevirtual 88, 3) := by decide +kernel
theorem d_Law_law_1267 : decode code 1267 = .ok (.iload 5, 2) := by decide +kernel
theorem d_Law_law_1269 : decode code 1269 = .ok (.if_icmp .eq 5, 3) := by decide +kernel
theorem d_Law_law_1272 : decode code 1272 = .ok (.iconst 0, 1) := by decide +kernel
theorem d_Law_law_1273 : decode code 1273 = .ok (.ireturn, 1) := by decide +kernel
theorem d_Law_law_1274 : decode code 1274 = .ok (.iload 5, 2) := by decide +kernel
theorem d_Law_law_1276 : decode code 1276 = .ok (.ifCond .ne 22, 3) := by decide +kernel
theorem d_Law_law_1279 : decode code 1279 = .ok (.aload_n 3, 1) := by decide +kernel
theorem d_Law_law_1280 : decode code 1280 = .ok (.iconst 0, 1) := by decide +kernel
theorem d_Law_law_1281 : decode code 1281 = .ok (.laload, 1) := by decide +kernel
theorem d_Law_law_1282 : decode code 1282 = .ok (.iload 6, 2) := by decide +kernel
theorem d_Law_law_1284 : decode code 1284 = .ok (.ifCond .eq 7, 3) := by decide +kernel
theorem d_Law_law_1287 : decode code 1287 = .ok (.lconst 1, 1) := by decide +kernel
theorem d_Law_law_1288 : decode code 1288 = .ok (.goto 4, 3) := by decide +kernel
theorem d_Law_law_1291 : decode code 1291 = .ok (.lconst 0, 1) := by decide +kernel
theorem d_Law_law_1292 : decode code 1292 = .ok (.lcmp, 1) := by decide +kernel
theorem d_Law_law_1293 : decode code 1293 = .ok (.ifCond .eq 5, 3) := by decide +kernel
theorem d_Law_law_1296 : decode code 1296 = .ok (.iconst 0, 1) := by decide +kernel
theorem d_Law_law_1297 : decode code 1297 = .ok (.ireturn, 1) := by decide +kernel
theorem d_Law_law_1298 : decode code 1298 = .ok (.goto 156, 3) := by decide +kernel
theorem d_Law_law_1301 : decode code 1301 = .ok (.aload_n 1, 1) := by decide +kernel
theorem d_Law_law_1302 : decode code 1302 = .ok (.invokevirtual 162, 3) := by decide +kernel
theorem d_Law_law_1305 : decode code 1305 = .ok (.aload_n 2, 1) := by decide +kernel
theorem d_Law_law_1306 : decode code 1306 = .ok (.invokevirtual 165, 3) := by decide +kernel
theorem d_Law_law_1309 : decode code 1309 = .ok (.if_icmp .eq 145, 3) := by decide +kernel
theorem d_Law_law_1312 : decode code 1312 = .ok (.iconst 0, 1) := by decide +kernel
theorem d_Law_law_1313 : decode code 1313 = .ok (.ireturn, 1) := by decide +kernel
theorem d_Law_law_1314 : decode code 1314 = .ok (.aload_n 1, 1) := by decide +kernel
theorem d_Law_law_1315 : decode code 1315 = .ok (.aload_n 0, 1) := by decide +kernel
theorem d_Law_law_1316 : decode code 1316 = .ok (.iload 4, 2) := by decide +kernel
theorem d_Law_law_1318 : decode code 1318 = .ok (.iconst 1, 1) := by decide +kernel
theorem d_Law_law_1319 : decode code 1319 = .ok (.iadd, 1) := by decide +kernel
theorem d_Law_law_1320 : decode code 1320 = .ok (.iaload, 1) := by decide +kernel
theorem d_Law_law_1321 : decode code 1321 = .ok (.aload_n 3, 1) := by decide +kernel
theorem d_Law_law_1322 : decode code 1322 = .ok (.invokestatic 166, 3) := by decide +kernel
theorem d_Law_law_1325 : decode code 1325 = .ok (.istore 5, 2) := by decide +kernel
theorem d_Law_law_1327 : decode code 1327 = .ok (.aload_n 2, 1) := by decide +kernel
theorem d_Law_law_1328 : decode code 1328 = .ok (.aload_n 0, 1) := by decide +kernel
theorem d_Law_law_1329 : decode code 1329 = .ok (.iload 4, 2) := by decide +kernel
theorem d_Law_law_1331 : decode code 1331 = .ok (.iconst 1, 1) := by decide +kernel
theorem d_Law_law_1332 : decode code 1332 = .ok (.iadd, 1) := by decide +kernel
theorem d_Law_law_1333 : decode code 1333 = .ok (.iaload, 1) := by decide +kernel
theorem d_Law_law_1334 : decode code 1334 = .ok (.invokevirtual 168, 3) := by decide +kernel
theorem d_Law_law_1337 : decode code 1337 = .ok (.istore 6, 2) := by decide +kernel
theorem d_Law_law_1339 : decode code 1339 = .ok (.aload_n 2, 1) := by decide +kernel
theorem d_Law_law_1340 : decode code 1340 = .ok (.invokevirtual 88, 3) := by decide +kernel
theorem d_Law_law_1343 : decode code 1343 = .ok (.iload 5, 2) := by decide +kernel
theorem d_Law_law_1345 : decode code 1345 = .ok (.if_icmp .eq 5, 3) := by decide +kernel
theorem d_Law_law_1348 : decode code 1348 = .ok (.iconst 0, 1) := by decide +kernel
theorem d_Law_law_1349 : decode code 1349 = .ok (.ireturn, 1) := by decide +kernel
theorem d_Law_law_1350 : decode code 1350 = .ok (.iload 5, 2) := by decide +kernel
theorem d_Law_law_1352 : decode code 1352 = .ok (.ifCond .ne 15, 3) := by decide +kernel
theorem d_Law_law_1355 : decode code 1355 = .ok (.aload_n 3, 1) := by decide +kernel
theorem d_Law_law_1356 : decode code 1356 = .ok (.iconst 0, 1) := by decide +kernel
theorem d_Law_law_1357 : decode code 1357 = .ok (.laload, 1) := by decide +kernel
theorem d_Law_law_1358 : decode code 1358 = .ok (.iload 6, 2) := by decide +kernel
theorem d_Law_law_1360 : decode code 1360 = .ok (.i2l, 1) := by decide +kernel
theorem d_Law_law_1361 : decode code 1361 = .ok (.lcmp, 1) := by decide +kernel
theorem d_Law_law_1362 : decode code 1362 = .ok (.ifCond .eq 5, 3) := by decide +kernel
theorem d_Law_law_1365 : decode code 1365 = .ok (.iconst 0, 1) := by decide +kernel
theorem d_Law_law_1366 : decode code 1366 = .ok (.ireturn, 1) := by decide +kernel
theorem d_Law_law_1367 : decode code 1367 = .ok (.goto 87, 3) := by decide +kernel
theorem d_Law_law_1370 : decode code 1370 = .ok (.aload_n 1, 1) := by decide +kernel
theorem d_Law_law_1371 : decode code 1371 = .ok (.invokevirtual 169, 3) := by decide +kernel
theorem d_Law_law_1374 : decode code 1374 = .ok (.aload_n 2, 1) := by decide +kernel
theorem d_Law_law_1375 : decode code 1375 = .ok (.invokevirtual 172, 3) := by decide +kernel
theorem d_Law_law_1378 : decode code 1378 = .ok (.if_icmp .eq 76, 3) := by decide +kernel
theorem d_Law_law_1381 : decode code 1381 = .ok (.iconst 0, 1) := by decide +kernel
theorem d_Law_law_1382 : decode code 1382 = .ok (.ireturn, 1) := by decide +kernel
theorem d_Law_law_1383 : decode code 1383 = .ok (.aload_n 1, 1) := by decide +kernel
theorem d_Law_law_1384 : decode code 1384 = .ok (.invokevirtual 173, 3) := by decide +kernel
theorem d_Law_law_1387 : decode code 1387 = .ok (.aload_n 2, 1) := by decide +kernel
theorem d_Law_law_1388 : decode code 1388 = .ok (.invokevirtual 176, 3) := by decide +kernel
theorem d_Law_law_1391 : decode code 1391 = .ok (.if_icmp .eq 63, 3) := by decide +kernel
theorem d_Law_law_1394 : decode code 1394 = .ok (.iconst 0, 1) := by decide +kernel
theorem d_Law_law_1395 : decode code 1395 = .ok (.ireturn, 1) := by decide +kernel
theorem d_Law_law_1396 : decode code 1396 = .ok (.aload_n 1, 1) := by decide +kernel
theorem d_Law_law_1397 : decode code 1397 = .ok (.aload_n 3, 1) := by decide +kernel
theorem d_Law_law_1398 : decode code 1398 = .ok (.invokestatic 177, 3) := by decide +kernel
theorem d_Law_law_1401 : decode code 1401 = .ok (.istore 5, 2) := by decide +kernel
theorem d_Law_law_1403 : decode code 1403 = .ok (.aload_n 2, 1) := by decide +kernel
theorem d_Law_law_1404 : decode code 1404 = .ok (.invokevirtual 180, 3) := by decide +kernel
theorem d_Law_law_1407 : decode code 1407 = .ok (.istore 6, 2) := by decide +kernel
theorem d_Law_law_1409 : decode code 1409 = .ok (.aload_n 2, 1) := by decide +kernel
theorem d_Law_law_1410 : decode code 1410 = .ok (.invokevirtual 88, 3) := by decide +kernel
theorem d_Law_law_1413 : decode code 1413 = .ok (.iload 5, 2) := by decide +kernel
theorem d_Law_law_1415 : decode code 1415 = .ok (.if_icmp .eq 5, 3) := by decide +kernel
theorem d_Law_law_1418 : decode code 1418 = .ok (.iconst 0, 1) := by decide +kernel
theorem d_Law_law_1419 : decode code 1419 = .ok (.ireturn, 1) := by decide +kernel
theorem d_Law_law_1420 : decode code 1420 = .ok (.iload 5, 2) := by decide +kernel
theorem d_Law_law_1422 : decode code 1422 = .ok (.ifCond .ne 15, 3) := by decide +kernel
theorem d_Law_law_1425 : decode code 1425 = .ok (.aload_n 3, 1) := by decide +kernel
theorem d_Law_law_1426 : decode code 1426 = .ok (.iconst 0, 1) := by decide +kernel
theorem d_Law_law_1427 : decode code 1427 = .ok (.laload, 1) := by decide +kernel
theorem d_Law_law_1428 : decode code 1428 = .ok (.iload 6, 2) := by decide +kernel
theorem d_Law_law_1430 : decode code 1430 = .ok (.i2l, 1) := by decide +kernel
theorem d_Law_law_1431 : decode code 1431 = .ok (.lcmp, 1) := by decide +kernel
theorem d_Law_law_1432 : decode code 1432 = .ok (.ifCond .eq 5, 3) := by decide +kernel
theorem d_Law_law_1435 : decode code 1435 = .ok (.iconst 0, 1) := by decide +kernel
theorem d_Law_law_1436 : decode code 1436 = .ok (.ireturn, 1) := by decide +kernel
theorem d_Law_law_1437 : decode code 1437 = .ok (.goto 17, 3) := by decide +kernel
theorem d_Law_law_1440 : decode code 1440 = .ok (.aload_n 1, 1) := by decide +kernel
theorem d_Law_law_1441 : decode code 1441 = .ok (.invokevirtual 181, 3) := by decide +kernel
theorem d_Law_law_1444 : decode code 1444 = .ok (.aload_n 2, 1) := by decide +kernel
theorem d_Law_law_1445 : decode code 1445 = .ok (.invokevirtual 185, 3) := by decide +kernel
theorem d_Law_law_1448 : decode code 1448 = .ok (.lcmp, 1) := by decide +kernel
theorem d_Law_law_1449 : decode code 1449 = .ok (.ifCond .eq 5, 3) := by decide +kernel
theorem d_Law_law_1452 : decode code 1452 = .ok (.iconst 0, 1) := by decide +kernel
theorem d_Law_law_1453 : decode code 1453 = .ok (.ireturn, 1) := by decide +kernel
theorem d_Law_law_1454 : decode code 1454 = .ok (.iinc 4 4, 3) := by decide +kernel
theorem d_Law_law_1457 : decode code 1457 = .ok (.goto (-1434), 3) := by decide +kernel
theorem d_Law_law_1460 : decode code 1460 = .ok (.iconst 1, 1) := by decide +kernel
theorem d_Law_law_1461 : decode code 1461 = .ok (.ireturn, 1) := by decide +kernel
def m_Law_law : MT := (⟨"NumberPlaceLaw", "law", "([I)Z"⟩, code, 7, ret)
def KLw (E : ET) : KT := fun _ _ s _ args below _ _ => fun t => (args = #[Value.ref (eS E 1)] ∧ s.heap.size ≤ eB E) → lw_Z below args s t
def xI (L : Nat) (xs : Nat → Int32) (i : Int32) : Option Int32 := if i < 0 ∨ L ≤ i.toNatClampNeg then none else some (xs i.toNatClampNeg)
theorem xI_x {L : Nat} {xs : Nat → Int32} {i v : Int32} (e : xI L xs i = some v) : vp_in i L ∧ v = xs i.toNatClampNeg := by
  unfold xI at e
  split at e
  · cases e
  · rename_i q
    cases e
    exact ⟨q, rfl⟩
def unT {α : Type} (o : Option ((Nat ⊕ α) × PH)) : Option (α × PH) := match o with
  | some (.inr a, h) => some (a, h)
  | _ => none
theorem unT_x {α : Type} {o : Option ((Nat ⊕ α) × PH)} {a : α} {h : PH} (e : unT o = some (a, h)) : o = some (.inr a, h) := by
  match o, e with
  | some (.inr a', h'), e => cases e; rfl
section LAWR
variable {l : Launch} {E : ET} {M Mc : MT} {R : Room} {K : KT} {kc ks : Nat} {h h1 : PH} {x : Nat} {pc : Nat} {lv : List (Nat × Value)} {st st0 : List Value} {d' n idx : Nat} {As : List Value} {hh : List (Nat × Nat × Nat × Nat)}
theorem go_callW {r : Int32} (hf : FnW l E Mc hh d' As h x (PoX r h1)) (lk : LkW M.1.cls idx Mc hh n) (hs : st0 = As.reverse ++ st) (hn : As.length = n) (hR : d' + 1 ≤ R.frames ∧ 60 * d' + 60 ≤ R.locals) (hst : (st.map fun v => v.category).sum ≤ 8) (hcell : kc + 1 ≤ R.cells ∧ ks + 6 ≤ R.slots) (hd : decode M.2.1 pc = .ok (.invokestatic idx, 3))
    (kk : ∀ x', Go l E M R (KI K) (kc + 1) (ks + 6) h1 x' (pc + 3) lv (.int r :: st)) : Go l E M R (KI K) kc ks h x pc lv st0 := by
  intro p e s m args below meth c C H locs hW hz hS ls hls
  refine W_imp fun hX => ?_
  subst hs
  obtain ⟨l1, l2, l3, l4, l5, l6⟩ := lk
  have hSF := C.2.2.2.2.2.2.2.1
  have hts := C.2.2.2.2.2.1
  have hpre : PreS s H (va_Pc (As.map (mv E)) (fun U => World E h x U ∧ XF U)) (As.map (mv E)) := ⟨WorldX.blind, fun U hU hw => ⟨rfl, World.start hW hz hS hSF hU hw, XF.warm hw hX⟩⟩
  have hstack : ((As.reverse ++ st).map (mv E)) = (As.map (mv E)).reverse ++ st.map (mv E) := by
    rw [List.map_append, List.map_reverse]
  have hR9 : (rm d' 1 6).frames + 1 ≤ R.frames ∧ 8 + (Mc.2.2.1 + 11) + (rm d' 1 6).locals ≤ R.locals := ⟨hR.1, by show 8 + (Mc.2.2.1 + 11) + 60 * d' ≤ _; have := hR.2; omega⟩
  have hgood : GoodIn w_S (wsW Mc hh) := fun w hw => by
    rcases List.mem_cons.mp hw with rfl | hw
    · exact w_gd l3
    · exact w_gd hw
  have run : va_Run p l e R s m args below meth c H locs kc ks 1 6 (F0 m pc ls ((As.reverse ++ st).map (mv E))) (st.map (mv E)) (Qp E (PoX r h1) (As.map (mv E)).toArray) (eA E) :=
    vx_runSW ⟨C.1, C.2.1, C.2.2.2.1, C.2.2.2.2.1, hts⟩ hf (vx_cwSW n hts (good_pre (ps := [.methodLink M.1.cls idx Mc.1, .static Mc.1, .initialized Mc.1.cls]) hgood (fun w hw => by
          rcases List.mem_cons.mp hw with rfl | hw
          · exact l1
          rcases List.mem_cons.mp hw with rfl | hw
          · exact l2
          rcases List.mem_cons.mp hw with rfl | hw
          · exact l4
          cases hw)) rfl rfl rfl l5 hR9) hpre rfl ((List.length_map _).trans hn) hls.1 hstack (lv_room (stc hst)) hd hcell
  refine go_after run hS fun v h' x' hp H1 locs1 hW1 hz1 hS1 => ?_
  obtain ⟨rfl, rfl⟩ := hp
  exact W_use hX (kk x' p e s m args below meth c C H1 locs1 hW1 hz1 hS1 ls hls)
theorem go_lawret (hd : decode m_Law_law.2.1 pc = .ok (.ireturn, 1)) (hk : kc ≤ 601024 ∧ ks ≤ 7293034) : Go l E m_Law_law room_1 (KI (KLw E)) kc ks h x pc lv [.int 1] := by
  intro p e s m args below meth c C H locs hW hz hS ls hls
  refine W_imp fun _ => W_imp fun hh9 => ?_
  obtain ⟨ha, hb9⟩ := hh9
  subst ha
  refine va_forget (fun q hq => Nat.le_trans hb9 (hS.2.2 q hq)) ?_
  refine W.widen hk.1 hk.2 ?_
  exact lw_ret C.1 C.2.1 C.2.2.1 C.2.2.2.2.2.2.1 hd
end LAWR
def b_Law_law_168 (F L : Nat) (xs : Nat → Int32) (k23 : Nat → Nat → Nat → Int32 → PH → Option Int32) (a1 : Nat) (a2 : Nat) (a3 : Nat) (i4 : Int32) (h : PH) : Option Int32 :=
  bnd (cK h a1 9) fun _ => bnd2 (f_Np_begin F a1 h) fun x2 h3 => bnd (cK h3 a2 10) fun _ => bnd2 (f_Mo_begin F a2 h3) fun x5 h6 => (if x2 = x5 then k23 a1 a2 a3 (i4 + (4 : Int32)) h6 else some (0 : Int32))
theorem gl_168 {l : Launch} {E : ET} (hl : l.stackTraces = false) {F kc ks x : Nat} (hc : kc + 1 ≤ 601000 ∧ ks + 6 ≤ 7290000) {k23 : Nat → Nat → Nat → Int32 → PH → Option Int32} (hk : ∀ (a1 : Nat) (a2 : Nat) (a3 : Nat) (i4 : Int32) (hh : PH) (x' kc' ks' : Nat), kc' ≤ kc + 1 → ks' ≤ ks + 6 → k23 a1 a2 a3 i4 hh = some 1 → Go l E m_Law_law room_1 (KI (KLw E)) kc' ks' hh x' 23 [(0, .retAddr 1), (1, .ref a1), (2, .ref a2), (3, .ref a3), (4, .int i4)] []) (a1 : Nat) (a2 : Nat) (a3 : Nat) (i4 : Int32) (h : PH) (hf : b_Law_law_168 F (eL E) (eX E) k23 a1 a2 a3 i4 h = some 1) : Go l E m_Law_law room_1 (KI (KLw E)) kc ks h x 168 [(0, .retAddr 1), (1, .ref a1), (2, .ref a2), (3, .ref a3), (4, .int i4)] [] := by
  unfold b_Law_law_168 at hf
  refine go_aload_n 1 d_Law_law_168 rfl ?_
  obtain ⟨_, e1, hf⟩ := bnd_x hf
  obtain ⟨x2, h3, e_x2, hf⟩ := bnd2_x hf
  refine go_callV_I (As := []) (st := []) (c_Np_begin (d := 200) (by omega) e_x2) lk_Law_78 rfl rfl e1 (by decide) rfl ⟨by decide, by decide⟩ (Nat.le_of_ble_eq_true rfl) ⟨by show _ ≤ 601024; omega, by show _ ≤ 7293034; omega⟩ d_Law_law_169 ?_
  refine go_aload_n 2 d_Law_law_172 rfl ?_
  obtain ⟨_, e4, hf⟩ := bnd_x hf
  obtain ⟨x5, h6, e_x5, hf⟩ := bnd2_x hf
  refine go_callV_I (As := []) (st := [.int x2]) (c_Mo_begin (d := 200) (by omega) e_x5) lk_Law_81 rfl rfl e4 (by decide) rfl ⟨by decide, by decide⟩ (Nat.le_of_ble_eq_true rfl) ⟨by show _ ≤ 601024; omega, by show _ ≤ 7293034; omega⟩ d_Law_law_173 ?_
  refine go_icmp_eq 1454 d_Law_law_176 (by decide) (fun q7 => ?_) (fun q7 => ?_)
  · rw [if_pos q7] at hf
    refine go_iinc (lv' := [(4, .int (i4 + (4 : Int32))), (0, .retAddr 1), (1, .ref a1), (2, .ref a2), (3, .ref a3)]) 4 (i4 + (4 : Int32)) d_Law_law_1454 rfl rfl rfl (by decide) ?_
    refine go_goto 23 d_Law_law_1457 (by decide) ?_
    refine go_sub (lv' := [(0, .retAddr 1), (1, .ref a1), (2, .ref a2), (3, .ref a3), (4, .int (i4 + (4 : Int32)))]) [1, 2, 3, 4, 0] rfl ?_
    exact hk a1 a2 a3 (i4 + (4 : Int32)) h6 _ _ _ (by omega) (by omega) hf
  · rw [if_neg q7] at hf
    refine go_iconst (0 : Int32) d_Law_law_179 (by decide) ?_
    exact absurd (Option.some.inj hf) (by decide)
def b_Law_law_181 (F L : Nat) (xs : Nat → Int32) (k23 : Nat → Nat → Nat → Int32 → PH → Option Int32) (a1 : Nat) (a2 : Nat) (a3 : Nat) (i4 : Int32) (h : PH) : Option Int32 :=
  bnd (xI L xs (i4 + (1 : Int32))) fun x1 => bnd (xI L xs (i4 + (2 : Int32))) fun x2 => bnd2 (f_Law_give F a1 x1 x2 a3 h) fun x3 h4 => bnd (xI L xs (i4 + (1 : Int32))) fun x5 => bnd (xI L xs (i4 + (2 : Int32))) fun x6 => bnd (cK h4 a2 10) fun _ => bnd2 (f_Mo_give F a2 x5 x6 h4) fun x8 h9 => bnd (cK h9 a2 10) fun _ => bnd (f_Mo_thrown a2 h9) fun x11 => (if x11 = x3 then (if x3 = (0 : Int32) then bnd (aL h9 a3 (0 : Int32)) fun x12 => (if (lg_cmp x12 (x8.toInt64)) = (0 : Int32) then k23 a1 a2 a3 (i4 + (4 : Int32)) h9 else some (0 : Int32)) else k23 a1 a2 a3 (i4 + (4 : Int32)) h9) else some (0 : Int32))
theorem gl_181 {l : Launch} {E : ET} (hl : l.stackTraces = false) {F kc ks x : Nat} (hc : kc + 1 ≤ 601000 ∧ ks + 6 ≤ 7290000) {k23 : Nat → Nat → Nat → Int32 → PH → Option Int32} (hk : ∀ (a1 : Nat) (a2 : Nat) (a3 : Nat) (i4 : Int32) (hh : PH) (x' kc' ks' : Nat), kc' ≤ kc + 1 → ks' ≤ ks + 6 → k23 a1 a2 a3 i4 hh = some 1 → Go l E m_Law_law room_1 (KI (KLw E)) kc' ks' hh x' 23 [(0, .retAddr 1), (1, .ref a1), (2, .ref a2), (3, .ref a3), (4, .int i4)] []) (a1 : Nat) (a2 : Nat) (a3 : Nat) (i4 : Int32) (h : PH) (hf : b_Law_law_181 F (eL E) (eX E) k23 a1 a2 a3 i4 h = some 1) : Go l E m_Law_law room_1 (KI (KLw E)) kc ks h x 181 [(0, .retAddr 1), (1, .ref a1), (2, .ref a2), (3, .ref a3), (4, .int i4)] [] := by
  unfold b_Law_law_181 at hf
  refine go_aload_n 1 d_Law_law_181 rfl ?_
  refine go_aloadS_n 0 d_Law_law_182 rfl ?_
  refine go_iload 4 d_Law_law_183 rfl ?_
  refine go_iconst (1 : Int32) d_Law_law_185 (by decide) ?_
  refine go_iadd d_Law_law_186 ?_
  obtain ⟨x1, e_x1, hf⟩ := bnd_x hf
  obtain ⟨g_x1, q_x1⟩ := xI_x e_x1
  refine go_sload d_Law_law_187 g_x1 ?_
  rw [← q_x1]
  refine go_aloadS_n 0 d_Law_law_188 rfl ?_
  refine go_iload 4 d_Law_law_189 rfl ?_
  refine go_iconst (2 : Int32) d_Law_law_191 (by decide) ?_
  refine go_iadd d_Law_law_192 ?_
  obtain ⟨x2, e_x2, hf⟩ := bnd_x hf
  obtain ⟨g_x2, q_x2⟩ := xI_x e_x2
  refine go_sload d_Law_law_193 g_x2 ?_
  rw [← q_x2]
  refine go_aload_n 3 d_Law_law_194 rfl ?_
  obtain ⟨x3, h4, e_x3, hf⟩ := bnd2_x hf
  refine go_callW (As := [.ref a1, .int x1, .int x2, .ref a3]) (st := []) (c_Law_give hl (d := 200) (by omega) e_x3) lk_Law_82 rfl rfl ⟨by decide, by decide⟩ (Nat.le_of_ble_eq_true rfl) ⟨by show _ ≤ 601024; omega, by show _ ≤ 7293034; omega⟩ d_Law_law_195 (fun x => ?_)
  refine go_istore (lv' := [(5, .int x3), (0, .retAddr 1), (1, .ref a1), (2, .ref a2), (3, .ref a3), (4, .int i4)]) d_Law_law_198 rfl (by decide) ?_
  refine go_aload_n 3 d_Law_law_200 rfl ?_
  refine go_aloadS_n 1 d_Law_law_201 rfl ?_
  refine go_iload 5 d_Law_law_202 rfl ?_
  refine go_iconst (1 : Int32) d_Law_law_204 (by decide) ?_
  refine go_iadd d_Law_law_205 ?_
  obtain ⟨x5, e_x5, hf⟩ := bnd_x hf
  obtain ⟨g_x5, q_x5⟩ := xI_x e_x5
  refine go_sload d_Law_law_206 g_x5 ?_
  rw [← q_x5]
  refine go_aloadS_n 1 d_Law_law_207 rfl ?_
  refine go_iload 5 d_Law_law_208 rfl ?_
  refine go_iconst (2 : Int32) d_Law_law_210 (by decide) ?_
  refine go_iadd d_Law_law_211 ?_
  obtain ⟨x6, e_x6, hf⟩ := bnd_x hf
  obtain ⟨g_x6, q_x6⟩ := xI_x e_x6
  refine go_sload d_Law_law_212 g_x6 ?_
  rw [← q_x6]
  obtain ⟨_, e7, hf⟩ := bnd_x hf
  obtain ⟨x8, h9, e_x8, hf⟩ := bnd2_x hf
  refine go_callV_I (As := [.int x5, .int x6]) (st := []) (c_Mo_give (d := 200) (by omega) e_x8) lk_Law_87 rfl rfl e7 (by decide) rfl ⟨by decide, by decide⟩ (Nat.le_of_ble_eq_true rfl) ⟨by show _ ≤ 601024; omega, by show _ ≤ 7293034; omega⟩ d_Law_law_213 ?_
  refine go_istore (lv' := [(6, .int x8), (5, .int x3), (0, .retAddr 1), (1, .ref a1), (2, .ref a2), (3, .ref a3), (4, .int i4)]) d_Law_law_216 rfl (by decide) ?_
  refine go_aload_n 4 d_Law_law_218 rfl ?_
  obtain ⟨_, e10, hf⟩ := bnd_x hf
  obtain ⟨x11, e_x11, hf⟩ := bnd_x hf
  refine go_callV_I (As := []) (st := []) (c_Mo_thrown (d := 200) (by omega) e_x11) lk_Law_88 rfl rfl e10 (by decide) rfl ⟨by decide, by decide⟩ (Nat.le_of_ble_eq_true rfl) ⟨by show _ ≤ 601024; omega, by show _ ≤ 7293034; omega⟩ d_Law_law_219 ?_
  refine go_iload 1 d_Law_law_222 rfl ?_
  refine go_icmp_eq 229 d_Law_law_224 (by decide) (fun q15 => ?_) (fun q15 => ?_)
  · rw [if_pos q15] at hf
    refine go_iload 1 d_Law_law_229 rfl ?_
    refine go_if_ne 246 d_Law_law_231 (by decide) (fun q14 => ?_) (fun q14 => ?_)
    · rw [if_neg q14] at hf
      refine go_goto 1454 d_Law_law_246 (by decide) ?_
      refine go_iinc (lv' := [(4, .int (i4 + (4 : Int32))), (6, .int x8), (5, .int x3), (0, .retAddr 1), (1, .ref a1), (2, .ref a2), (3, .ref a3)]) 6 (i4 + (4 : Int32)) d_Law_law_1454 rfl rfl rfl (by decide) ?_
      refine go_goto 23 d_Law_law_1457 (by decide) ?_
      refine go_sub (lv' := [(0, .retAddr 1), (1, .ref a1), (2, .ref a2), (3, .ref a3), (4, .int (i4 + (4 : Int32)))]) [3, 4, 5, 6, 0] rfl ?_
      exact hk a1 a2 a3 (i4 + (4 : Int32)) h9 _ _ _ (by omega) (by omega) hf
    · rw [if_pos q14] at hf
      refine go_aload_n 5 d_Law_law_234 rfl ?_
      refine go_iconst (0 : Int32) d_Law_law_235 (by decide) ?_
      obtain ⟨x12, e_x12, hf⟩ := bnd_x hf
      refine go_laload d_Law_law_236 e_x12 ?_
      refine go_iload 0 d_Law_law_237 rfl ?_
      refine go_i2l d_Law_law_239 ?_
      refine go_lcmp d_Law_law_240 ?_
      refine go_if_eq 246 d_Law_law_241 (by decide) (fun q13 => ?_) (fun q13 => ?_)
      · rw [if_pos q13] at hf
        refine go_goto 1454 d_Law_law_246 (by decide) ?_
        refine go_iinc (lv' := [(4, .int (i4 + (4 : Int32))), (6, .int x8), (5, .int x3), (0, .retAddr 1), (1, .ref a1), (2, .ref a2), (3, .ref a3)]) 6 (i4 + (4 : Int32)) d_Law_law_1454 rfl rfl rfl (by decide) ?_
        refine go_goto 23 d_Law_law_1457 (by decide) ?_
        refine go_sub (lv' := [(0, .retAddr 1), (1, .ref a1), (2, .ref a2), (3, .ref a3), (4, .int (i4 + (4 : Int32)))]) [3, 4, 5, 6, 0] rfl ?_
        exact hk a1 a2 a3 (i4 + (4 : Int32)) h9 _ _ _ (by omega) (by omega) hf
      · rw [if_neg q13] at hf
        refine go_iconst (0 : Int32) d_Law_law_244 (by decide) ?_
        exact absurd (Option.some.inj hf) (by decide)
  · rw [if_neg q15] at hf
    refine go_iconst (0 : Int32) d_Law_law_227 (by decide) ?_
    exact absurd (Option.some.inj hf) (by decide)
def b_Law_law_249 (F L : Nat) (xs : Nat → Int32) (k23 : Nat → Nat → Nat → Int32 → PH → Option Int32) (a1 : Nat) (a2 : Nat) (a3 : Nat) (i4 : Int32) (h : PH) : Option Int32 :=
  bnd (xI L xs (i4 + (1 : Int32))) fun x1 => bnd (xI L xs (i4 + (2 : Int32))) fun x2 => bnd2 (f_Law_strike a1 x1 x2 a3 h) fun x3 h4 => bnd (xI L xs (i4 + (1 : Int32))) fun x5 => bnd (xI L xs (i4 + (2 : Int32))) fun x6 => bnd (cK h4 a2 10) fun _ => bnd2 (f_Mo_strike F a2 x5 x6 h4) fun x8 h9 => bnd (cK h9 a2 10) fun _ => bnd (f_Mo_thrown a2 h9) fun x11 => (if x11 = x3 then (if x3 = (0 : Int32) then bnd (aL h9 a3 (0 : Int32)) fun x12 => (if x8 = (0 : Int32) then (if (lg_cmp x12 (0 : Int64)) = (0 : Int32) then k23 a1 a2 a3 (i4 + (4 : Int32)) h9 else some (0 : Int32)) else (if (lg_cmp x12 (1 : Int64)) = (0 : Int32) then k23 a1 a2 a3 (i4 + (4 : Int32)) h9 else some (0 : Int32))) else k23 a1 a2 a3 (i4 + (4 : Int32)) h9) else some (0 : Int32))
theorem gl_249 {l : Launch} {E : ET} (hl : l.stackTraces = false) {F kc ks x : Nat} (hc : kc + 1 ≤ 601000 ∧ ks + 6 ≤ 7290000) {k23 : Nat → Nat → Nat → Int32 → PH → Option Int32} (hk : ∀ (a1 : Nat) (a2 : Nat) (a3 : Nat) (i4 : Int32) (hh : PH) (x' kc' ks' : Nat), kc' ≤ kc + 1 → ks' ≤ ks + 6 → k23 a1 a2 a3 i4 hh = some 1 → Go l E m_Law_law room_1 (KI (KLw E)) kc' ks' hh x' 23 [(0, .retAddr 1), (1, .ref a1), (2, .ref a2), (3, .ref a3), (4, .int i4)] []) (a1 : Nat) (a2 : Nat) (a3 : Nat) (i4 : Int32) (h : PH) (hf : b_Law_law_249 F (eL E) (eX E) k23 a1 a2 a3 i4 h = some 1) : Go l E m_Law_law room_1 (KI (KLw E)) kc ks h x 249 [(0, .retAddr 1), (1, .ref a1), (2, .ref a2), (3, .ref a3), (4, .int i4)] [] := by
  unfold b_Law_law_249 at hf
  refine go_aload_n 1 d_Law_law_249 rfl ?_
  refine go_aloadS_n 0 d_Law_law_250 rfl ?_
  refine go_iload 4 d_Law_law_251 rfl ?_
  refine go_iconst (1 : Int32) d_Law_law_253 (by decide) ?_
  refine go_iadd d_Law_law_254 ?_
  obtain ⟨x1, e_x1, hf⟩ := bnd_x hf
  obtain ⟨g_x1, q_x1⟩ := xI_x e_x1
  refine go_sload d_Law_law_255 g_x1 ?_
  rw [← q_x1]
  refine go_aloadS_n 0 d_Law_law_256 rfl ?_
  refine go_iload 4 d_Law_law_257 rfl ?_
  refine go_iconst (2 : Int32) d_Law_law_259 (by decide) ?_
  refine go_iadd d_Law_law_260 ?_
  obtain ⟨x2, e_x2, hf⟩ := bnd_x hf
  obtain ⟨g_x2, q_x2⟩ := xI_x e_x2
  refine go_sload d_Law_law_261 g_x2 ?_
  rw [← q_x2]
  refine go_aload_n 3 d_Law_law_262 rfl ?_
  obtain ⟨x3, h4, e_x3, hf⟩ := bnd2_x hf
  refine go_callW (As := [.ref a1, .int x1, .int x2, .ref a3]) (st := []) (c_Law_strike hl (d := 200) (by omega) e_x3) lk_Law_91 rfl rfl ⟨by decide, by decide⟩ (Nat.le_of_ble_eq_true rfl) ⟨by show _ ≤ 601024; omega, by show _ ≤ 7293034; omega⟩ d_Law_law_263 (fun x => ?_)
  refine go_istore (lv' := [(5, .int x3), (0, .retAddr 1), (1, .ref a1), (2, .ref a2), (3, .ref a3), (4, .int i4)]) d_Law_law_266 rfl (by decide) ?_
  refine go_aload_n 3 d_Law_law_268 rfl ?_
  refine go_aloadS_n 1 d_Law_law_269 rfl ?_
  refine go_iload 5 d_Law_law_270 rfl ?_
  refine go_iconst (1 : Int32) d_Law_law_272 (by decide) ?_
  refine go_iadd d_Law_law_273 ?_
  obtain ⟨x5, e_x5, hf⟩ := bnd_x hf
  obtain ⟨g_x5, q_x5⟩ := xI_x e_x5
  refine go_sload d_Law_law_274 g_x5 ?_
  rw [← q_x5]
  refine go_aloadS_n 1 d_Law_law_275 rfl ?_
  refine go_iload 5 d_Law_law_276 rfl ?_
  refine go_iconst (2 : Int32) d_Law_law_278 (by decide) ?_
  refine go_iadd d_Law_law_279 ?_
  obtain ⟨x6, e_x6, hf⟩ := bnd_x hf
  obtain ⟨g_x6, q_x6⟩ := xI_x e_x6
  refine go_sload d_Law_law_280 g_x6 ?_
  rw [← q_x6]
  obtain ⟨_, e7, hf⟩ := bnd_x hf
  obtain ⟨x8, h9, e_x8, hf⟩ := bnd2_x hf
  refine go_callV_I (As := [.int x5, .int x6]) (st := []) (c_Mo_strike (d := 200) (by omega) e_x8) lk_Law_93 rfl rfl e7 (by decide) rfl ⟨by decide, by decide⟩ (Nat.le_of_ble_eq_true rfl) ⟨by show _ ≤ 601024; omega, by show _ ≤ 7293034; omega⟩ d_Law_law_281 ?_
  refine go_istore (lv' := [(6, .int x8), (5, .int x3), (0, .retAddr 1), (1, .ref a1), (2, .ref a2), (3, .ref a3), (4, .int i4)]) d_Law_law_284 rfl (by decide) ?_
  refine go_aload_n 4 d_Law_law_286 rfl ?_
  obtain ⟨_, e10, hf⟩ := bnd_x hf
  obtain ⟨x11, e_x11, hf⟩ := bnd_x hf
  refine go_callV_I (As := []) (st := []) (c_Mo_thrown (d := 200) (by omega) e_x11) lk_Law_88 rfl rfl e10 (by decide) rfl ⟨by decide, by decide⟩ (Nat.le_of_ble_eq_true rfl) ⟨by show _ ≤ 601024; omega, by show _ ≤ 7293034; omega⟩ d_Law_law_287 ?_
  refine go_iload 1 d_Law_law_290 rfl ?_
  refine go_icmp_eq 297 d_Law_law_292 (by decide) (fun q17 => ?_) (fun q17 => ?_)
  · rw [if_pos q17] at hf
    refine go_iload 1 d_Law_law_297 rfl ?_
    refine go_if_ne 321 d_Law_law_299 (by decide) (fun q16 => ?_) (fun q16 => ?_)
    · rw [if_neg q16] at hf
      refine go_goto 1454 d_Law_law_321 (by decide) ?_
      refine go_iinc (lv' := [(4, .int (i4 + (4 : Int32))), (6, .int x8), (5, .int x3), (0, .retAddr 1), (1, .ref a1), (2, .ref a2), (3, .ref a3)]) 6 (i4 + (4 : Int32)) d_Law_law_1454 rfl rfl rfl (by decide) ?_
      refine go_goto 23 d_Law_law_1457 (by decide) ?_
      refine go_sub (lv' := [(0, .retAddr 1), (1, .ref a1), (2, .ref a2), (3, .ref a3), (4, .int (i4 + (4 : Int32)))]) [3, 4, 5, 6, 0] rfl ?_
      exact hk a1 a2 a3 (i4 + (4 : Int32)) h9 _ _ _ (by omega) (by omega) hf
    · rw [if_pos q16] at hf
      refine go_aload_n 5 d_Law_law_302 rfl ?_
      refine go_iconst (0 : Int32) d_Law_law_303 (by decide) ?_
      obtain ⟨x12, e_x12, hf⟩ := bnd_x hf
      refine go_laload d_Law_law_304 e_x12 ?_
      refine go_iload 0 d_Law_law_305 rfl ?_
      refine go_if_eq 314 d_Law_law_307 (by decide) (fun q15 => ?_) (fun q15 => ?_)
      · rw [if_pos q15] at hf
        refine go_lconst (0 : Int64) d_Law_law_314 (by decide) ?_
        refine go_lcmp d_Law_law_315 ?_
        refine go_if_eq 321 d_Law_law_316 (by decide) (fun q13 => ?_) (fun q13 => ?_)
        · rw [if_pos q13] at hf
          refine go_goto 1454 d_Law_law_321 (by decide) ?_
          refine go_iinc (lv' := [(4, .int (i4 + (4 : Int32))), (6, .int x8), (5, .int x3), (0, .retAddr 1), (1, .ref a1), (2, .ref a2), (3, .ref a3)]) 6 (i4 + (4 : Int32)) d_Law_law_1454 rfl rfl rfl (by decide) ?_
          refine go_goto 23 d_Law_law_1457 (by decide) ?_
          refine go_sub (lv' := [(0, .retAddr 1), (1, .ref a1), (2, .ref a2), (3, .ref a3), (4, .int (i4 + (4 : Int32)))]) [3, 4, 5, 6, 0] rfl ?_
          exact hk a1 a2 a3 (i4 + (4 : Int32)) h9 _ _ _ (by omega) (by omega) hf
        · rw [if_neg q13] at hf
          refine go_iconst (0 : Int32) d_Law_law_319 (by decide) ?_
          exact absurd (Option.some.inj hf) (by decide)
      · rw [if_neg q15] at hf
        refine go_lconst (1 : Int64) d_Law_law_310 (by decide) ?_
        refine go_goto 315 d_Law_law_311 (by decide) ?_
        refine go_lcmp d_Law_law_315 ?_
        refine go_if_eq 321 d_Law_law_316 (by decide) (fun q14 => ?_) (fun q14 => ?_)
        · rw [if_pos q14] at hf
          refine go_goto 1454 d_Law_law_321 (by decide) ?_
          refine go_iinc (lv' := [(4, .int (i4 + (4 : Int32))), (6, .int x8), (5, .int x3), (0, .retAddr 1), (1, .ref a1), (2, .ref a2), (3, .ref a3)]) 6 (i4 + (4 : Int32)) d_Law_law_1454 rfl rfl rfl (by decide) ?_
          refine go_goto 23 d_Law_law_1457 (by decide) ?_
          refine go_sub (lv' := [(0, .retAddr 1), (1, .ref a1), (2, .ref a2), (3, .ref a3), (4, .int (i4 + (4 : Int32)))]) [3, 4, 5, 6, 0] rfl ?_
          exact hk a1 a2 a3 (i4 + (4 : Int32)) h9 _ _ _ (by omega) (by omega) hf
        · rw [if_neg q14] at hf
          refine go_iconst (0 : Int32) d_Law_law_319 (by decide) ?_
          exact absurd (Option.some.inj hf) (by decide)
  · rw [if_neg q17] at hf
    refine go_iconst (0 : Int32) d_Law_law_295 (by decide) ?_
    exact absurd (Option.some.inj hf) (by decide)
def b_Law_law_324 (F L : Nat) (xs : Nat → Int32) (k23 : Nat → Nat → Nat → Int32 → PH → Option Int32) (a1 : Nat) (a2 : Nat) (a3 : Nat) (i4 : Int32) (h : PH) : Option Int32 :=
  bnd (xI L xs (i4 + (1 : Int32))) fun x1 => bnd (xI L xs (i4 + (2 : Int32))) fun x2 => bnd (xI L xs (i4 + (3 : Int32))) fun x3 => bnd2 (f_Law_addConstraint F a1 x1 x2 x3 a3 h) fun x4 h5 => bnd (xI L xs (i4 + (1 : Int32))) fun x6 => bnd (xI L xs (i4 + (2 : Int32))) fun x7 => bnd (xI L xs (i4 + (3 : Int32))) fun x8 => bnd (cK h5 a2 10) fun _ => bnd2 (f_Mo_addConstraint F a2 x6 x7 x8 h5) fun x10 h11 => bnd (cK h11 a2 10) fun _ => bnd (f_Mo_thrown a2 h11) fun x13 => (if x13 = x4 then (if x4 = (0 : Int32) then bnd (aL h11 a3 (0 : Int32)) fun x14 => (if (lg_cmp x14 (x10.toInt64)) = (0 : Int32) then k23 a1 a2 a3 (i4 + (4 : Int32)) h11 else some (0 : Int32)) else k23 a1 a2 a3 (i4 + (4 : Int32)) h11) else some (0 : Int32))
theorem gl_324 {l : Launch} {E : ET} (hl : l.stackTraces = false) {F kc ks x : Nat} (hc : kc + 1 ≤ 601000 ∧ ks + 6 ≤ 7290000) {k23 : Nat → Nat → Nat → Int32 → PH → Option Int32} (hk : ∀ (a1 : Nat) (a2 : Nat) (a3 : Nat) (i4 : Int32) (hh : PH) (x' kc' ks' : Nat), kc' ≤ kc + 1 → ks' ≤ ks + 6 → k23 a1 a2 a3 i4 hh = some 1 → Go l E m_Law_law room_1 (KI (KLw E)) kc' ks' hh x' 23 [(0, .retAddr 1), (1, .ref a1), (2, .ref a2), (3, .ref a3), (4, .int i4)] []) (a1 : Nat) (a2 : Nat) (a3 : Nat) (i4 : Int32) (h : PH) (hf : b_Law_law_324 F (eL E) (eX E) k23 a1 a2 a3 i4 h = some 1) : Go l E m_Law_law room_1 (KI (KLw E)) kc ks h x 324 [(0, .retAddr 1), (1, .ref a1), (2, .ref a2), (3, .ref a3), (4, .int i4)] [] := by
  unfold b_Law_law_324 at hf
  refine go_aload_n 1 d_Law_law_324 rfl ?_
  refine go_aloadS_n 0 d_Law_law_325 rfl ?_
  refine go_iload 4 d_Law_law_326 rfl ?_
  refine go_iconst (1 : Int32) d_Law_law_328 (by decide) ?_
  refine go_iadd d_Law_law_329 ?_
  obtain ⟨x1, e_x1, hf⟩ := bnd_x hf
  obtain ⟨g_x1, q_x1⟩ := xI_x e_x1
  refine go_sload d_Law_law_330 g_x1 ?_
  rw [← q_x1]
  refine go_aloadS_n 0 d_Law_law_331 rfl ?_
  refine go_iload 4 d_Law_law_332 rfl ?_
  refine go_iconst (2 : Int32) d_Law_law_334 (by decide) ?_
  refine go_iadd d_Law_law_335 ?_
  obtain ⟨x2, e_x2, hf⟩ := bnd_x hf
  obtain ⟨g_x2, q_x2⟩ := xI_x e_x2
  refine go_sload d_Law_law_336 g_x2 ?_
  rw [← q_x2]
  refine go_aloadS_n 0 d_Law_law_337 rfl ?_
  refine go_iload 4 d_Law_law_338 rfl ?_
  refine go_iconst (3 : Int32) d_Law_law_340 (by decide) ?_
  refine go_iadd d_Law_law_341 ?_
  obtain ⟨x3, e_x3, hf⟩ := bnd_x hf
  obtain ⟨g_x3, q_x3⟩ := xI_x e_x3
  refine go_sload d_Law_law_342 g_x3 ?_
  rw [← q_x3]
  refine go_aload_n 3 d_Law_law_343 rfl ?_
  obtain ⟨x4, h5, e_x4, hf⟩ := bnd2_x hf
  refine go_callW (As := [.ref a1, .int x1, .int x2, .int x3, .ref a3]) (st := []) (c_Law_addConstraint hl (d := 200) (by omega) e_x4) lk_Law_94 rfl rfl ⟨by decide, by decide⟩ (Nat.le_of_ble_eq_true rfl) ⟨by show _ ≤ 601024; omega, by show _ ≤ 7293034; omega⟩ d_Law_law_344 (fun x => ?_)
  refine go_istore (lv' := [(5, .int x4), (0, .retAddr 1), (1, .ref a1), (2, .ref a2), (3, .ref a3), (4, .int i4)]) d_Law_law_347 rfl (by decide) ?_
  refine go_aload_n 3 d_Law_law_349 rfl ?_
  refine go_aloadS_n 1 d_Law_law_350 rfl ?_
  refine go_iload 5 d_Law_law_351 rfl ?_
  refine go_iconst (1 : Int32) d_Law_law_353 (by decide) ?_
  refine go_iadd d_Law_law_354 ?_
  obtain ⟨x6, e_x6, hf⟩ := bnd_x hf
  obtain ⟨g_x6, q_x6⟩ := xI_x e_x6
  refine go_sload d_Law_law_355 g_x6 ?_
  rw [← q_x6]
  refine go_aloadS_n 1 d_Law_law_356 rfl ?_
  refine go_iload 5 d_Law_law_357 rfl ?_
  refine go_iconst (2 : Int32) d_Law_law_359 (by decide) ?_
  refine go_iadd d_Law_law_360 ?_
  obtain ⟨x7, e_x7, hf⟩ := bnd_x hf
  obtain ⟨g_x7, q_x7⟩ := xI_x e_x7
  refine go_sload d_Law_law_361 g_x7 ?_
  rw [← q_x7]
  refine go_aloadS_n 1 d_Law_law_362 rfl ?_
  refine go_iload 5 d_Law_law_363 rfl ?_
  refine go_iconst (3 : Int32) d_Law_law_365 (by decide) ?_
  refine go_iadd d_Law_law_366 ?_
  obtain ⟨x8, e_x8, hf⟩ := bnd_x hf
  obtain ⟨g_x8, q_x8⟩ := xI_x e_x8
  refine go_sload d_Law_law_367 g_x8 ?_
  rw [← q_x8]
  obtain ⟨_, e9, hf⟩ := bnd_x hf
  obtain ⟨x10, h11, e_x10, hf⟩ := bnd2_x hf
  refine go_callV_I (As := [.int x6, .int x7, .int x8]) (st := []) (c_Mo_addConstraint (d := 200) (by omega) e_x10) lk_Law_97 rfl rfl e9 (by decide) rfl ⟨by decide, by decide⟩ (Nat.le_of_ble_eq_true rfl) ⟨by show _ ≤ 601024; omega, by show _ ≤ 7293034; omega⟩ d_Law_law_368 ?_
  refine go_istore (lv' := [(6, .int x10), (5, .int x4), (0, .retAddr 1), (1, .ref a1), (2, .ref a2), (3, .ref a3), (4, .int i4)]) d_Law_law_371 rfl (by decide) ?_
  refine go_aload_n 4 d_Law_law_373 rfl ?_
  obtain ⟨_, e12, hf⟩ := bnd_x hf
  obtain ⟨x13, e_x13, hf⟩ := bnd_x hf
  refine go_callV_I (As := []) (st := []) (c_Mo_thrown (d := 200) (by omega) e_x13) lk_Law_88 rfl rfl e12 (by decide) rfl ⟨by decide, by decide⟩ (Nat.le_of_ble_eq_true rfl) ⟨by show _ ≤ 601024; omega, by show _ ≤ 7293034; omega⟩ d_Law_law_374 ?_
  refine go_iload 1 d_Law_law_377 rfl ?_
  refine go_icmp_eq 384 d_Law_law_379 (by decide) (fun q17 => ?_) (fun q17 => ?_)
  · rw [if_pos q17] at hf
    refine go_iload 1 d_Law_law_384 rfl ?_
    refine go_if_ne 401 d_Law_law_386 (by decide) (fun q16 => ?_) (fun q16 => ?_)
    · rw [if_neg q16] at hf
      refine go_goto 1454 d_Law_law_401 (by decide) ?_
      refine go_iinc (lv' := [(4, .int (i4 + (4 : Int32))), (6, .int x10), (5, .int x4), (0, .retAddr 1), (1, .ref a1), (2, .ref a2), (3, .ref a3)]) 6 (i4 + (4 : Int32)) d_Law_law_1454 rfl rfl rfl (by decide) ?_
      refine go_goto 23 d_Law_law_1457 (by decide) ?_
      refine go_sub (lv' := [(0, .retAddr 1), (1, .ref a1), (2, .ref a2), (3, .ref a3), (4, .int (i4 + (4 : Int32)))]) [3, 4, 5, 6, 0] rfl ?_
      exact hk a1 a2 a3 (i4 + (4 : Int32)) h11 _ _ _ (by omega) (by omega) hf
    · rw [if_pos q16] at hf
      refine go_aload_n 5 d_Law_law_389 rfl ?_
      refine go_iconst (0 : Int32) d_Law_law_390 (by decide) ?_
      obtain ⟨x14, e_x14, hf⟩ := bnd_x hf
      refine go_laload d_Law_law_391 e_x14 ?_
      refine go_iload 0 d_Law_law_392 rfl ?_
      refine go_i2l d_Law_law_394 ?_
      refine go_lcmp d_Law_law_395 ?_
      refine go_if_eq 401 d_Law_law_396 (by decide) (fun q15 => ?_) (fun q15 => ?_)
      · rw [if_pos q15] at hf
        refine go_goto 1454 d_Law_law_401 (by decide) ?_
        refine go_iinc (lv' := [(4, .int (i4 + (4 : Int32))), (6, .int x10), (5, .int x4), (0, .retAddr 1), (1, .ref a1), (2, .ref a2), (3, .ref a3)]) 6 (i4 + (4 : Int32)) d_Law_law_1454 rfl rfl rfl (by decide) ?_
        refine go_goto 23 d_Law_law_1457 (by decide) ?_
        refine go_sub (lv' := [(0, .retAddr 1), (1, .ref a1), (2, .ref a2), (3, .ref a3), (4, .int (i4 + (4 : Int32)))]) [3, 4, 5, 6, 0] rfl ?_
        exact hk a1 a2 a3 (i4 + (4 : Int32)) h11 _ _ _ (by omega) (by omega) hf
      · rw [if_neg q15] at hf
        refine go_iconst (0 : Int32) d_Law_law_399 (by decide) ?_
        exact absurd (Option.some.inj hf) (by decide)
  · rw [if_neg q17] at hf
    refine go_iconst (0 : Int32) d_Law_law_382 (by decide) ?_
    exact absurd (Option.some.inj hf) (by decide)
def b_Law_law_404 (F L : Nat) (xs : Nat → Int32) (k23 : Nat → Nat → Nat → Int32 → PH → Option Int32) (a1 : Nat) (a2 : Nat) (a3 : Nat) (i4 : Int32) (h : PH) : Option Int32 :=
  bnd (xI L xs (i4 + (1 : Int32))) fun x1 => bnd (xI L xs (i4 + (2 : Int32))) fun x2 => bnd2 (f_Law_extend F a1 x1 x2 a3 h) fun x3 h4 => bnd (xI L xs (i4 + (1 : Int32))) fun x5 => bnd (xI L xs (i4 + (2 : Int32))) fun x6 => bnd (cK h4 a2 10) fun _ => bnd2 (f_Mo_extend F a2 x5 x6 h4) fun x8 h9 => bnd (cK h9 a2 10) fun _ => bnd (f_Mo_thrown a2 h9) fun x11 => (if x11 = x3 then (if x3 = (0 : Int32) then bnd (aL h9 a3 (0 : Int32)) fun x12 => (if (lg_cmp x12 (x8.toInt64)) = (0 : Int32) then k23 a1 a2 a3 (i4 + (4 : Int32)) h9 else some (0 : Int32)) else k23 a1 a2 a3 (i4 + (4 : Int32)) h9) else some (0 : Int32))
theorem gl_404 {l : Launch} {E : ET} (hl : l.stackTraces = false) {F kc ks x : Nat} (hc : kc + 1 ≤ 601000 ∧ ks + 6 ≤ 7290000) {k23 : Nat → Nat → Nat → Int32 → PH → Option Int32} (hk : ∀ (a1 : Nat) (a2 : Nat) (a3 : Nat) (i4 : Int32) (hh : PH) (x' kc' ks' : Nat), kc' ≤ kc + 1 → ks' ≤ ks + 6 → k23 a1 a2 a3 i4 hh = some 1 → Go l E m_Law_law room_1 (KI (KLw E)) kc' ks' hh x' 23 [(0, .retAddr 1), (1, .ref a1), (2, .ref a2), (3, .ref a3), (4, .int i4)] []) (a1 : Nat) (a2 : Nat) (a3 : Nat) (i4 : Int32) (h : PH) (hf : b_Law_law_404 F (eL E) (eX E) k23 a1 a2 a3 i4 h = some 1) : Go l E m_Law_law room_1 (KI (KLw E)) kc ks h x 404 [(0, .retAddr 1), (1, .ref a1), (2, .ref a2), (3, .ref a3), (4, .int i4)] [] := by
  unfold b_Law_law_404 at hf
  refine go_aload_n 1 d_Law_law_404 rfl ?_
  refine go_aloadS_n 0 d_Law_law_405 rfl ?_
  refine go_iload 4 d_Law_law_406 rfl ?_
  refine go_iconst (1 : Int32) d_Law_law_408 (by decide) ?_
  refine go_iadd d_Law_law_409 ?_
  obtain ⟨x1, e_x1, hf⟩ := bnd_x hf
  obtain ⟨g_x1, q_x1⟩ := xI_x e_x1
  refine go_sload d_Law_law_410 g_x1 ?_
  rw [← q_x1]
  refine go_aloadS_n 0 d_Law_law_411 rfl ?_
  refine go_iload 4 d_Law_law_412 rfl ?_
  refine go_iconst (2 : Int32) d_Law_law_414 (by decide) ?_
  refine go_iadd d_Law_law_415 ?_
  obtain ⟨x2, e_x2, hf⟩ := bnd_x hf
  obtain ⟨g_x2, q_x2⟩ := xI_x e_x2
  refine go_sload d_Law_law_416 g_x2 ?_
  rw [← q_x2]
  refine go_aload_n 3 d_Law_law_417 rfl ?_
  obtain ⟨x3, h4, e_x3, hf⟩ := bnd2_x hf
  refine go_callW (As := [.ref a1, .int x1, .int x2, .ref a3]) (st := []) (c_Law_extend hl (d := 200) (by omega) e_x3) lk_Law_98 rfl rfl ⟨by decide, by decide⟩ (Nat.le_of_ble_eq_true rfl) ⟨by show _ ≤ 601024; omega, by show _ ≤ 7293034; omega⟩ d_Law_law_418 (fun x => ?_)
  refine go_istore (lv' := [(5, .int x3), (0, .retAddr 1), (1, .ref a1), (2, .ref a2), (3, .ref a3), (4, .int i4)]) d_Law_law_421 rfl (by decide) ?_
  refine go_aload_n 3 d_Law_law_423 rfl ?_
  refine go_aloadS_n 1 d_Law_law_424 rfl ?_
  refine go_iload 5 d_Law_law_425 rfl ?_
  refine go_iconst (1 : Int32) d_Law_law_427 (by decide) ?_
  refine go_iadd d_Law_law_428 ?_
  obtain ⟨x5, e_x5, hf⟩ := bnd_x hf
  obtain ⟨g_x5, q_x5⟩ := xI_x e_x5
  refine go_sload d_Law_law_429 g_x5 ?_
  rw [← q_x5]
  refine go_aloadS_n 1 d_Law_law_430 rfl ?_
  refine go_iload 5 d_Law_law_431 rfl ?_
  refine go_iconst (2 : Int32) d_Law_law_433 (by decide) ?_
  refine go_iadd d_Law_law_434 ?_
  obtain ⟨x6, e_x6, hf⟩ := bnd_x hf
  obtain ⟨g_x6, q_x6⟩ := xI_x e_x6
  refine go_sload d_Law_law_435 g_x6 ?_
  rw [← q_x6]
  obtain ⟨_, e7, hf⟩ := bnd_x hf
  obtain ⟨x8, h9, e_x8, hf⟩ := bnd2_x hf
  refine go_callV_I (As := [.int x5, .int x6]) (st := []) (c_Mo_extend (d := 200) (by omega) e_x8) lk_Law_100 rfl rfl e7 (by decide) rfl ⟨by decide, by decide⟩ (Nat.le_of_ble_eq_true rfl) ⟨by show _ ≤ 601024; omega, by show _ ≤ 7293034; omega⟩ d_Law_law_436 ?_
  refine go_istore (lv' := [(6, .int x8), (5, .int x3), (0, .retAddr 1), (1, .ref a1), (2, .ref a2), (3, .ref a3), (4, .int i4)]) d_Law_law_439 rfl (by decide) ?_
  refine go_aload_n 4 d_Law_law_441 rfl ?_
  obtain ⟨_, e10, hf⟩ := bnd_x hf
  obtain ⟨x11, e_x11, hf⟩ := bnd_x hf
  refine go_callV_I (As := []) (st := []) (c_Mo_thrown (d := 200) (by omega) e_x11) lk_Law_88 rfl rfl e10 (by decide) rfl ⟨by decide, by decide⟩ (Nat.le_of_ble_eq_true rfl) ⟨by show _ ≤ 601024; omega, by show _ ≤ 7293034; omega⟩ d_Law_law_442 ?_
  refine go_iload 1 d_Law_law_445 rfl ?_
  refine go_icmp_eq 452 d_Law_law_447 (by decide) (fun q15 => ?_) (fun q15 => ?_)
  · rw [if_pos q15] at hf
    refine go_iload 1 d_Law_law_452 rfl ?_
    refine go_if_ne 469 d_Law_law_454 (by decide) (fun q14 => ?_) (fun q14 => ?_)
    · rw [if_neg q14] at hf
      refine go_goto 1454 d_Law_law_469 (by decide) ?_
      refine go_iinc (lv' := [(4, .int (i4 + (4 : Int32))), (6, .int x8), (5, .int x3), (0, .retAddr 1), (1, .ref a1), (2, .ref a2), (3, .ref a3)]) 6 (i4 + (4 : Int32)) d_Law_law_1454 rfl rfl rfl (by decide) ?_
      refine go_goto 23 d_Law_law_1457 (by decide) ?_
      refine go_sub (lv' := [(0, .retAddr 1), (1, .ref a1), (2, .ref a2), (3, .ref a3), (4, .int (i4 + (4 : Int32)))]) [3, 4, 5, 6, 0] rfl ?_
      exact hk a1 a2 a3 (i4 + (4 : Int32)) h9 _ _ _ (by omega) (by omega) hf
    · rw [if_pos q14] at hf
      refine go_aload_n 5 d_Law_law_457 rfl ?_
      refine go_iconst (0 : Int32) d_Law_law_458 (by decide) ?_
      obtain ⟨x12, e_x12, hf⟩ := bnd_x hf
      refine go_laload d_Law_law_459 e_x12 ?_
      refine go_iload 0 d_Law_law_460 rfl ?_
      refine go_i2l d_Law_law_462 ?_
      refine go_lcmp d_Law_law_463 ?_
      refine go_if_eq 469 d_Law_law_464 (by decide) (fun q13 => ?_) (fun q13 => ?_)
      · rw [if_pos q13] at hf
        refine go_goto 1454 d_Law_law_469 (by decide) ?_
        refine go_iinc (lv' := [(4, .int (i4 + (4 : Int32))), (6, .int x8), (5, .int x3), (0, .retAddr 1), (1, .ref a1), (2, .ref a2), (3, .ref a3)]) 6 (i4 + (4 : Int32)) d_Law_law_1454 rfl rfl rfl (by decide) ?_
        refine go_goto 23 d_Law_law_1457 (by decide) ?_
        refine go_sub (lv' := [(0, .retAddr 1), (1, .ref a1), (2, .ref a2), (3, .ref a3), (4, .int (i4 + (4 : Int32)))]) [3, 4, 5, 6, 0] rfl ?_
        exact hk a1 a2 a3 (i4 + (4 : Int32)) h9 _ _ _ (by omega) (by omega) hf
      · rw [if_neg q13] at hf
        refine go_iconst (0 : Int32) d_Law_law_467 (by decide) ?_
        exact absurd (Option.some.inj hf) (by decide)
  · rw [if_neg q15] at hf
    refine go_iconst (0 : Int32) d_Law_law_450 (by decide) ?_
    exact absurd (Option.some.inj hf) (by decide)
def b_Law_law_472 (F L : Nat) (xs : Nat → Int32) (k23 : Nat → Nat → Nat → Int32 → PH → Option Int32) (a1 : Nat) (a2 : Nat) (a3 : Nat) (i4 : Int32) (h : PH) : Option Int32 :=
  bnd (cK h a1 9) fun _ => bnd2 (f_Np_restart F a1 h) fun x2 h3 => bnd (cK h3 a2 10) fun _ => bnd2 (f_Mo_restart F a2 h3) fun x5 h6 => (if x2 = x5 then k23 a1 a2 a3 (i4 + (4 : Int32)) h6 else some (0 : Int32))
theorem gl_472 {l : Launch} {E : ET} (hl : l.stackTraces = false) {F kc ks x : Nat} (hc : kc + 1 ≤ 601000 ∧ ks + 6 ≤ 7290000) {k23 : Nat → Nat → Nat → Int32 → PH → Option Int32} (hk : ∀ (a1 : Nat) (a2 : Nat) (a3 : Nat) (i4 : Int32) (hh : PH) (x' kc' ks' : Nat), kc' ≤ kc + 1 → ks' ≤ ks + 6 → k23 a1 a2 a3 i4 hh = some 1 → Go l E m_Law_law room_1 (KI (KLw E)) kc' ks' hh x' 23 [(0, .retAddr 1), (1, .ref a1), (2, .ref a2), (3, .ref a3), (4, .int i4)] []) (a1 : Nat) (a2 : Nat) (a3 : Nat) (i4 : Int32) (h : PH) (hf : b_Law_law_472 F (eL E) (eX E) k23 a1 a2 a3 i4 h = some 1) : Go l E m_Law_law room_1 (KI (KLw E)) kc ks h x 472 [(0, .retAddr 1), (1, .ref a1), (2, .ref a2), (3, .ref a3), (4, .int i4)] [] := by
  unfold b_Law_law_472 at hf
  refine go_aload_n 1 d_Law_law_472 rfl ?_
  obtain ⟨_, e1, hf⟩ := bnd_x hf
  obtain ⟨x2, h3, e_x2, hf⟩ := bnd2_x hf
  refine go_callV_I (As := []) (st := []) (c_Np_restart (d := 200) (by omega) e_x2) lk_Law_101 rfl rfl e1 (by decide) rfl ⟨by decide, by decide⟩ (Nat.le_of_ble_eq_true rfl) ⟨by show _ ≤ 601024; omega, by show _ ≤ 7293034; omega⟩ d_Law_law_473 ?_
  refine go_aload_n 2 d_Law_law_476 rfl ?_
  obtain ⟨_, e4, hf⟩ := bnd_x hf
  obtain ⟨x5, h6, e_x5, hf⟩ := bnd2_x hf
  refine go_callV_I (As := []) (st := [.int x2]) (c_Mo_restart (d := 200) (by omega) e_x5) lk_Law_104 rfl rfl e4 (by decide) rfl ⟨by decide, by decide⟩ (Nat.le_of_ble_eq_true rfl) ⟨by show _ ≤ 601024; omega, by show _ ≤ 7293034; omega⟩ d_Law_law_477 ?_
  refine go_icmp_eq 1454 d_Law_law_480 (by decide) (fun q7 => ?_) (fun q7 => ?_)
  · rw [if_pos q7] at hf
    refine go_iinc (lv' := [(4, .int (i4 + (4 : Int32))), (0, .retAddr 1), (1, .ref a1), (2, .ref a2), (3, .ref a3)]) 4 (i4 + (4 : Int32)) d_Law_law_1454 rfl rfl rfl (by decide) ?_
    refine go_goto 23 d_Law_law_1457 (by decide) ?_
    refine go_sub (lv' := [(0, .retAddr 1), (1, .ref a1), (2, .ref a2), (3, .ref a3), (4, .int (i4 + (4 : Int32)))]) [1, 2, 3, 4, 0] rfl ?_
    exact hk a1 a2 a3 (i4 + (4 : Int32)) h6 _ _ _ (by omega) (by omega) hf
  · rw [if_neg q7] at hf
    refine go_iconst (0 : Int32) d_Law_law_483 (by decide) ?_
    exact absurd (Option.some.inj hf) (by decide)
def b_Law_law_485 (F L : Nat) (xs : Nat → Int32) (k23 : Nat → Nat → Nat → Int32 → PH → Option Int32) (a1 : Nat) (a2 : Nat) (a3 : Nat) (i4 : Int32) (h : PH) : Option Int32 :=
  bnd (xI L xs (i4 + (1 : Int32))) fun x1 => bnd (xI L xs (i4 + (2 : Int32))) fun x2 => bnd2 (f_Law_make F a1 x1 x2 a3 h) fun x3 h4 => bnd (xI L xs (i4 + (1 : Int32))) fun x5 => bnd (xI L xs (i4 + (2 : Int32))) fun x6 => bnd (cK h4 a2 10) fun _ => bnd2 (f_Mo_make F a2 x5 x6 h4) fun x8 h9 => bnd (cK h9 a2 10) fun _ => bnd (f_Mo_thrown a2 h9) fun x11 => (if x11 = x3 then (if x3 = (0 : Int32) then bnd (aL h9 a3 (0 : Int32)) fun x12 => (if (lg_cmp x12 (x8.toInt64)) = (0 : Int32) then k23 a1 a2 a3 (i4 + (4 : Int32)) h9 else some (0 : Int32)) else k23 a1 a2 a3 (i4 + (4 : Int32)) h9) else some (0 : Int32))
theorem gl_485 {l : Launch} {E : ET} (hl : l.stackTraces = false) {F kc ks x : Nat} (hc : kc + 1 ≤ 601000 ∧ ks + 6 ≤ 7290000) {k23 : Nat → Nat → Nat → Int32 → PH → Option Int32} (hk : ∀ (a1 : Nat) (a2 : Nat) (a3 : Nat) (i4 : Int32) (hh : PH) (x' kc' ks' : Nat), kc' ≤ kc + 1 → ks' ≤ ks + 6 → k23 a1 a2 a3 i4 hh = some 1 → Go l E m_Law_law room_1 (KI (KLw E)) kc' ks' hh x' 23 [(0, .retAddr 1), (1, .ref a1), (2, .ref a2), (3, .ref a3), (4, .int i4)] []) (a1 : Nat) (a2 : Nat) (a3 : Nat) (i4 : Int32) (h : PH) (hf : b_Law_law_485 F (eL E) (eX E) k23 a1 a2 a3 i4 h = some 1) : Go l E m_Law_law room_1 (KI (KLw E)) kc ks h x 485 [(0, .retAddr 1), (1, .ref a1), (2, .ref a2), (3, .ref a3), (4, .int i4)] [] := by
  unfold b_Law_law_485 at hf
  refine go_aload_n 1 d_Law_law_485 rfl ?_
  refine go_aloadS_n 0 d_Law_law_486 rfl ?_
  refine go_iload 4 d_Law_law_487 rfl ?_
  refine go_iconst (1 : Int32) d_Law_law_489 (by decide) ?_
  refine go_iadd d_Law_law_490 ?_
  obtain ⟨x1, e_x1, hf⟩ := bnd_x hf
  obtain ⟨g_x1, q_x1⟩ := xI_x e_x1
  refine go_sload d_Law_law_491 g_x1 ?_
  rw [← q_x1]
  refine go_aloadS_n 0 d_Law_law_492 rfl ?_
  refine go_iload 4 d_Law_law_493 rfl ?_
  refine go_iconst (2 : Int32) d_Law_law_495 (by decide) ?_
  refine go_iadd d_Law_law_496 ?_
  obtain ⟨x2, e_x2, hf⟩ := bnd_x hf
  obtain ⟨g_x2, q_x2⟩ := xI_x e_x2
  refine go_sload d_Law_law_497 g_x2 ?_
  rw [← q_x2]
  refine go_aload_n 3 d_Law_law_498 rfl ?_
  obtain ⟨x3, h4, e_x3, hf⟩ := bnd2_x hf
  refine go_callW (As := [.ref a1, .int x1, .int x2, .ref a3]) (st := []) (c_Law_make hl (d := 200) (by omega) e_x3) lk_Law_105 rfl rfl ⟨by decide, by decide⟩ (Nat.le_of_ble_eq_true rfl) ⟨by show _ ≤ 601024; omega, by show _ ≤ 7293034; omega⟩ d_Law_law_499 (fun x => ?_)
  refine go_istore (lv' := [(5, .int x3), (0, .retAddr 1), (1, .ref a1), (2, .ref a2), (3, .ref a3), (4, .int i4)]) d_Law_law_502 rfl (by decide) ?_
  refine go_aload_n 3 d_Law_law_504 rfl ?_
  refine go_aloadS_n 1 d_Law_law_505 rfl ?_
  refine go_iload 5 d_Law_law_506 rfl ?_
  refine go_iconst (1 : Int32) d_Law_law_508 (by decide) ?_
  refine go_iadd d_Law_law_509 ?_
  obtain ⟨x5, e_x5, hf⟩ := bnd_x hf
  obtain ⟨g_x5, q_x5⟩ := xI_x e_x5
  refine go_sload d_Law_law_510 g_x5 ?_
  rw [← q_x5]
  refine go_aloadS_n 1 d_Law_law_511 rfl ?_
  refine go_iload 5 d_Law_law_512 rfl ?_
  refine go_iconst (2 : Int32) d_Law_law_514 (by decide) ?_
  refine go_iadd d_Law_law_515 ?_
  obtain ⟨x6, e_x6, hf⟩ := bnd_x hf
  obtain ⟨g_x6, q_x6⟩ := xI_x e_x6
  refine go_sload d_Law_law_516 g_x6 ?_
  rw [← q_x6]
  obtain ⟨_, e7, hf⟩ := bnd_x hf
  obtain ⟨x8, h9, e_x8, hf⟩ := bnd2_x hf
  refine go_callV_I (As := [.int x5, .int x6]) (st := []) (c_Mo_make (d := 200) (by omega) e_x8) lk_Law_107 rfl rfl e7 (by decide) rfl ⟨by decide, by decide⟩ (Nat.le_of_ble_eq_true rfl) ⟨by show _ ≤ 601024; omega, by show _ ≤ 7293034; omega⟩ d_Law_law_517 ?_
  refine go_istore (lv' := [(6, .int x8), (5, .int x3), (0, .retAddr 1), (1, .ref a1), (2, .ref a2), (3, .ref a3), (4, .int i4)]) d_Law_law_520 rfl (by decide) ?_
  refine go_aload_n 4 d_Law_law_522 rfl ?_
  obtain ⟨_, e10, hf⟩ := bnd_x hf
  obtain ⟨x11, e_x11, hf⟩ := bnd_x hf
  refine go_callV_I (As := []) (st := []) (c_Mo_thrown (d := 200) (by omega) e_x11) lk_Law_88 rfl rfl e10 (by decide) rfl ⟨by decide, by decide⟩ (Nat.le_of_ble_eq_true rfl) ⟨by show _ ≤ 601024; omega, by show _ ≤ 7293034; omega⟩ d_Law_law_523 ?_
  refine go_iload 1 d_Law_law_526 rfl ?_
  refine go_icmp_eq 533 d_Law_law_528 (by decide) (fun q15 => ?_) (fun q15 => ?_)
  · rw [if_pos q15] at hf
    refine go_iload 1 d_Law_law_533 rfl ?_
    refine go_if_ne 550 d_Law_law_535 (by decide) (fun q14 => ?_) (fun q14 => ?_)
    · rw [if_neg q14] at hf
      refine go_goto 1454 d_Law_law_550 (by decide) ?_
      refine go_iinc (lv' := [(4, .int (i4 + (4 : Int32))), (6, .int x8), (5, .int x3), (0, .retAddr 1), (1, .ref a1), (2, .ref a2), (3, .ref a3)]) 6 (i4 + (4 : Int32)) d_Law_law_1454 rfl rfl rfl (by decide) ?_
      refine go_goto 23 d_Law_law_1457 (by decide) ?_
      refine go_sub (lv' := [(0, .retAddr 1), (1, .ref a1), (2, .ref a2), (3, .ref a3), (4, .int (i4 + (4 : Int32)))]) [3, 4, 5, 6, 0] rfl ?_
      exact hk a1 a2 a3 (i4 + (4 : Int32)) h9 _ _ _ (by omega) (by omega) hf
    · rw [if_pos q14] at hf
      refine go_aload_n 5 d_Law_law_538 rfl ?_
      refine go_iconst (0 : Int32) d_Law_law_539 (by decide) ?_
      obtain ⟨x12, e_x12, hf⟩ := bnd_x hf
      refine go_laload d_Law_law_540 e_x12 ?_
      refine go_iload 0 d_Law_law_541 rfl ?_
      refine go_i2l d_Law_law_543 ?_
      refine go_lcmp d_Law_law_544 ?_
      refine go_if_eq 550 d_Law_law_545 (by decide) (fun q13 => ?_) (fun q13 => ?_)
      · rw [if_pos q13] at hf
        refine go_goto 1454 d_Law_law_550 (by decide) ?_
        refine go_iinc (lv' := [(4, .int (i4 + (4 : Int32))), (6, .int x8), (5, .int x3), (0, .retAddr 1), (1, .ref a1), (2, .ref a2), (3, .ref a3)]) 6 (i4 + (4 : Int32)) d_Law_law_1454 rfl rfl rfl (by decide) ?_
        refine go_goto 23 d_Law_law_1457 (by decide) ?_
        refine go_sub (lv' := [(0, .retAddr 1), (1, .ref a1), (2, .ref a2), (3, .ref a3), (4, .int (i4 + (4 : Int32)))]) [3, 4, 5, 6, 0] rfl ?_
        exact hk a1 a2 a3 (i4 + (4 : Int32)) h9 _ _ _ (by omega) (by omega) hf
      · rw [if_neg q13] at hf
        refine go_iconst (0 : Int32) d_Law_law_548 (by decide) ?_
        exact absurd (Option.some.inj hf) (by decide)
  · rw [if_neg q15] at hf
    refine go_iconst (0 : Int32) d_Law_law_531 (by decide) ?_
    exact absurd (Option.some.inj hf) (by decide)
def b_Law_law_553 (F L : Nat) (xs : Nat → Int32) (k23 : Nat → Nat → Nat → Int32 → PH → Option Int32) (a1 : Nat) (a2 : Nat) (a3 : Nat) (i4 : Int32) (h : PH) : Option Int32 :=
  bnd (xI L xs (i4 + (1 : Int32))) fun x1 => bnd (xI L xs (i4 + (2 : Int32))) fun x2 => bnd2 (f_Law_constraint a1 x1 x2 a3 h) fun x3 h4 => bnd (xI L xs (i4 + (1 : Int32))) fun x5 => bnd (xI L xs (i4 + (2 : Int32))) fun x6 => bnd (cK h4 a2 10) fun _ => bnd2 (f_Mo_constraint a2 x5 x6 h4) fun x8 h9 => bnd (cK h9 a2 10) fun _ => bnd (f_Mo_thrown a2 h9) fun x11 => (if x11 = x3 then (if x3 = (0 : Int32) then bnd (aL h9 a3 (0 : Int32)) fun x12 => (if (lg_cmp x12 (x8.toInt64)) = (0 : Int32) then k23 a1 a2 a3 (i4 + (4 : Int32)) h9 else some (0 : Int32)) else k23 a1 a2 a3 (i4 + (4 : Int32)) h9) else some (0 : Int32))
theorem gl_553 {l : Launch} {E : ET} (hl : l.stackTraces = false) {F kc ks x : Nat} (hc : kc + 1 ≤ 601000 ∧ ks + 6 ≤ 7290000) {k23 : Nat → Nat → Nat → Int32 → PH → Option Int32} (hk : ∀ (a1 : Nat) (a2 : Nat) (a3 : Nat) (i4 : Int32) (hh : PH) (x' kc' ks' : Nat), kc' ≤ kc + 1 → ks' ≤ ks + 6 → k23 a1 a2 a3 i4 hh = some 1 → Go l E m_Law_law room_1 (KI (KLw E)) kc' ks' hh x' 23 [(0, .retAddr 1), (1, .ref a1), (2, .ref a2), (3, .ref a3), (4, .int i4)] []) (a1 : Nat) (a2 : Nat) (a3 : Nat) (i4 : Int32) (h : PH) (hf : b_Law_law_553 F (eL E) (eX E) k23 a1 a2 a3 i4 h = some 1) : Go l E m_Law_law room_1 (KI (KLw E)) kc ks h x 553 [(0, .retAddr 1), (1, .ref a1), (2, .ref a2), (3, .ref a3), (4, .int i4)] [] := by
  unfold b_Law_law_553 at hf
  refine go_aload_n 1 d_Law_law_553 rfl ?_
  refine go_aloadS_n 0 d_Law_law_554 rfl ?_
  refine go_iload 4 d_Law_law_555 rfl ?_
  refine go_iconst (1 : Int32) d_Law_law_557 (by decide) ?_
  refine go_iadd d_Law_law_558 ?_
  obtain ⟨x1, e_x1, hf⟩ := bnd_x hf
  obtain ⟨g_x1, q_x1⟩ := xI_x e_x1
  refine go_sload d_Law_law_559 g_x1 ?_
  rw [← q_x1]
  refine go_aloadS_n 0 d_Law_law_560 rfl ?_
  refine go_iload 4 d_Law_law_561 rfl ?_
  refine go_iconst (2 : Int32) d_Law_law_563 (by decide) ?_
  refine go_iadd d_Law_law_564 ?_
  obtain ⟨x2, e_x2, hf⟩ := bnd_x hf
  obtain ⟨g_x2, q_x2⟩ := xI_x e_x2
  refine go_sload d_Law_law_565 g_x2 ?_
  rw [← q_x2]
  refine go_aload_n 3 d_Law_law_566 rfl ?_
  obtain ⟨x3, h4, e_x3, hf⟩ := bnd2_x hf
  refine go_callW (As := [.ref a1, .int x1, .int x2, .ref a3]) (st := []) (c_Law_constraint hl (d := 200) (by omega) e_x3) lk_Law_108 rfl rfl ⟨by decide, by decide⟩ (Nat.le_of_ble_eq_true rfl) ⟨by show _ ≤ 601024; omega, by show _ ≤ 7293034; omega⟩ d_Law_law_567 (fun x => ?_)
  refine go_istore (lv' := [(5, .int x3), (0, .retAddr 1), (1, .ref a1), (2, .ref a2), (3, .ref a3), (4, .int i4)]) d_Law_law_570 rfl (by decide) ?_
  refine go_aload_n 3 d_Law_law_572 rfl ?_
  refine go_aloadS_n 1 d_Law_law_573 rfl ?_
  refine go_iload 5 d_Law_law_574 rfl ?_
  refine go_iconst (1 : Int32) d_Law_law_576 (by decide) ?_
  refine go_iadd d_Law_law_577 ?_
  obtain ⟨x5, e_x5, hf⟩ := bnd_x hf
  obtain ⟨g_x5, q_x5⟩ := xI_x e_x5
  refine go_sload d_Law_law_578 g_x5 ?_
  rw [← q_x5]
  refine go_aloadS_n 1 d_Law_law_579 rfl ?_
  refine go_iload 5 d_Law_law_580 rfl ?_
  refine go_iconst (2 : Int32) d_Law_law_582 (by decide) ?_
  refine go_iadd d_Law_law_583 ?_
  obtain ⟨x6, e_x6, hf⟩ := bnd_x hf
  obtain ⟨g_x6, q_x6⟩ := xI_x e_x6
  refine go_sload d_Law_law_584 g_x6 ?_
  rw [← q_x6]
  obtain ⟨_, e7, hf⟩ := bnd_x hf
  obtain ⟨x8, h9, e_x8, hf⟩ := bnd2_x hf
  refine go_callV_I (As := [.int x5, .int x6]) (st := []) (c_Mo_constraint (d := 200) (by omega) e_x8) lk_Law_110 rfl rfl e7 (by decide) rfl ⟨by decide, by decide⟩ (Nat.le_of_ble_eq_true rfl) ⟨by show _ ≤ 601024; omega, by show _ ≤ 7293034; omega⟩ d_Law_law_585 ?_
  refine go_istore (lv' := [(6, .int x8), (5, .int x3), (0, .retAddr 1), (1, .ref a1), (2, .ref a2), (3, .ref a3), (4, .int i4)]) d_Law_law_588 rfl (by decide) ?_
  refine go_aload_n 4 d_Law_law_590 rfl ?_
  obtain ⟨_, e10, hf⟩ := bnd_x hf
  obtain ⟨x11, e_x11, hf⟩ := bnd_x hf
  refine go_callV_I (As := []) (st := []) (c_Mo_thrown (d := 200) (by omega) e_x11) lk_Law_88 rfl rfl e10 (by decide) rfl ⟨by decide, by decide⟩ (Nat.le_of_ble_eq_true rfl) ⟨by show _ ≤ 601024; omega, by show _ ≤ 7293034; omega⟩ d_Law_law_591 ?_
  refine go_iload 1 d_Law_law_594 rfl ?_
  refine go_icmp_eq 601 d_Law_law_596 (by decide) (fun q15 => ?_) (fun q15 => ?_)
  · rw [if_pos q15] at hf
    refine go_iload 1 d_Law_law_601 rfl ?_
    refine go_if_ne 618 d_Law_law_603 (by decide) (fun q14 => ?_) (fun q14 => ?_)
    · rw [if_neg q14] at hf
      refine go_goto 1454 d_Law_law_618 (by decide) ?_
      refine go_iinc (lv' := [(4, .int (i4 + (4 : Int32))), (6, .int x8), (5, .int x3), (0, .retAddr 1), (1, .ref a1), (2, .ref a2), (3, .ref a3)]) 6 (i4 + (4 : Int32)) d_Law_law_1454 rfl rfl rfl (by decide) ?_
      refine go_goto 23 d_Law_law_1457 (by decide) ?_
      refine go_sub (lv' := [(0, .retAddr 1), (1, .ref a1), (2, .ref a2), (3, .ref a3), (4, .int (i4 + (4 : Int32)))]) [3, 4, 5, 6, 0] rfl ?_
      exact hk a1 a2 a3 (i4 + (4 : Int32)) h9 _ _ _ (by omega) (by omega) hf
    · rw [if_pos q14] at hf
      refine go_aload_n 5 d_Law_law_606 rfl ?_
      refine go_iconst (0 : Int32) d_Law_law_607 (by decide) ?_
      obtain ⟨x12, e_x12, hf⟩ := bnd_x hf
      refine go_laload d_Law_law_608 e_x12 ?_
      refine go_iload 0 d_Law_law_609 rfl ?_
      refine go_i2l d_Law_law_611 ?_
      refine go_lcmp d_Law_law_612 ?_
      refine go_if_eq 618 d_Law_law_613 (by decide) (fun q13 => ?_) (fun q13 => ?_)
      · rw [if_pos q13] at hf
        refine go_goto 1454 d_Law_law_618 (by decide) ?_
        refine go_iinc (lv' := [(4, .int (i4 + (4 : Int32))), (6, .int x8), (5, .int x3), (0, .retAddr 1), (1, .ref a1), (2, .ref a2), (3, .ref a3)]) 6 (i4 + (4 : Int32)) d_Law_law_1454 rfl rfl rfl (by decide) ?_
        refine go_goto 23 d_Law_law_1457 (by decide) ?_
        refine go_sub (lv' := [(0, .retAddr 1), (1, .ref a1), (2, .ref a2), (3, .ref a3), (4, .int (i4 + (4 : Int32)))]) [3, 4, 5, 6, 0] rfl ?_
        exact hk a1 a2 a3 (i4 + (4 : Int32)) h9 _ _ _ (by omega) (by omega) hf
      · rw [if_neg q13] at hf
        refine go_iconst (0 : Int32) d_Law_law_616 (by decide) ?_
        exact absurd (Option.some.inj hf) (by decide)
  · rw [if_neg q15] at hf
    refine go_iconst (0 : Int32) d_Law_law_599 (by decide) ?_
    exact absurd (Option.some.inj hf) (by decide)
def b_Law_law_621 (F L : Nat) (xs : Nat → Int32) (k23 : Nat → Nat → Nat → Int32 → PH → Option Int32) (a1 : Nat) (a2 : Nat) (a3 : Nat) (i4 : Int32) (h : PH) : Option Int32 :=
  bnd (xI L xs (i4 + (1 : Int32))) fun x1 => bnd (xI L xs (i4 + (2 : Int32))) fun x2 => bnd2 (f_Law_cellOf a1 x1 x2 a3 h) fun x3 h4 => bnd (xI L xs (i4 + (1 : Int32))) fun x5 => bnd (xI L xs (i4 + (2 : Int32))) fun x6 => bnd (cK h4 a2 10) fun _ => bnd2 (f_Mo_cellOf a2 x5 x6 h4) fun x8 h9 => bnd (cK h9 a2 10) fun _ => bnd (f_Mo_thrown a2 h9) fun x11 => (if x11 = x3 then (if x3 = (0 : Int32) then bnd (aL h9 a3 (0 : Int32)) fun x12 => (if (lg_cmp x12 (x8.toInt64)) = (0 : Int32) then k23 a1 a2 a3 (i4 + (4 : Int32)) h9 else some (0 : Int32)) else k23 a1 a2 a3 (i4 + (4 : Int32)) h9) else some (0 : Int32))
theorem gl_621 {l : Launch} {E : ET} (hl : l.stackTraces = false) {F kc ks x : Nat} (hc : kc + 1 ≤ 601000 ∧ ks + 6 ≤ 7290000) {k23 : Nat → Nat → Nat → Int32 → PH → Option Int32} (hk : ∀ (a1 : Nat) (a2 : Nat) (a3 : Nat) (i4 : Int32) (hh : PH) (x' kc' ks' : Nat), kc' ≤ kc + 1 → ks' ≤ ks + 6 → k23 a1 a2 a3 i4 hh = some 1 → Go l E m_Law_law room_1 (KI (KLw E)) kc' ks' hh x' 23 [(0, .retAddr 1), (1, .ref a1), (2, .ref a2), (3, .ref a3), (4, .int i4)] []) (a1 : Nat) (a2 : Nat) (a3 : Nat) (i4 : Int32) (h : PH) (hf : b_Law_law_621 F (eL E) (eX E) k23 a1 a2 a3 i4 h = some 1) : Go l E m_Law_law room_1 (KI (KLw E)) kc ks h x 621 [(0, .retAddr 1), (1, .ref a1), (2, .ref a2), (3, .ref a3), (4, .int i4)] [] := by
  unfold b_Law_law_621 at hf
  refine go_aload_n 1 d_Law_law_621 rfl ?_
  refine go_aloadS_n 0 d_Law_law_622 rfl ?_
  refine go_iload 4 d_Law_law_623 rfl ?_
  refine go_iconst (1 : Int32) d_Law_law_625 (by decide) ?_
  refine go_iadd d_Law_law_626 ?_
  obtain ⟨x1, e_x1, hf⟩ := bnd_x hf
  obtain ⟨g_x1, q_x1⟩ := xI_x e_x1
  refine go_sload d_Law_law_627 g_x1 ?_
  rw [← q_x1]
  refine go_aloadS_n 0 d_Law_law_628 rfl ?_
  refine go_iload 4 d_Law_law_629 rfl ?_
  refine go_iconst (2 : Int32) d_Law_law_631 (by decide) ?_
  refine go_iadd d_Law_law_632 ?_
  obtain ⟨x2, e_x2, hf⟩ := bnd_x hf
  obtain ⟨g_x2, q_x2⟩ := xI_x e_x2
  refine go_sload d_Law_law_633 g_x2 ?_
  rw [← q_x2]
  refine go_aload_n 3 d_Law_law_634 rfl ?_
  obtain ⟨x3, h4, e_x3, hf⟩ := bnd2_x hf
  refine go_callW (As := [.ref a1, .int x1, .int x2, .ref a3]) (st := []) (c_Law_cellOf hl (d := 200) (by omega) e_x3) lk_Law_111 rfl rfl ⟨by decide, by decide⟩ (Nat.le_of_ble_eq_true rfl) ⟨by show _ ≤ 601024; omega, by show _ ≤ 7293034; omega⟩ d_Law_law_635 (fun x => ?_)
  refine go_istore (lv' := [(5, .int x3), (0, .retAddr 1), (1, .ref a1), (2, .ref a2), (3, .ref a3), (4, .int i4)]) d_Law_law_638 rfl (by decide) ?_
  refine go_aload_n 3 d_Law_law_640 rfl ?_
  refine go_aloadS_n 1 d_Law_law_641 rfl ?_
  refine go_iload 5 d_Law_law_642 rfl ?_
  refine go_iconst (1 : Int32) d_Law_law_644 (by decide) ?_
  refine go_iadd d_Law_law_645 ?_
  obtain ⟨x5, e_x5, hf⟩ := bnd_x hf
  obtain ⟨g_x5, q_x5⟩ := xI_x e_x5
  refine go_sload d_Law_law_646 g_x5 ?_
  rw [← q_x5]
  refine go_aloadS_n 1 d_Law_law_647 rfl ?_
  refine go_iload 5 d_Law_law_648 rfl ?_
  refine go_iconst (2 : Int32) d_Law_law_650 (by decide) ?_
  refine go_iadd d_Law_law_651 ?_
  obtain ⟨x6, e_x6, hf⟩ := bnd_x hf
  obtain ⟨g_x6, q_x6⟩ := xI_x e_x6
  refine go_sload d_Law_law_652 g_x6 ?_
  rw [← q_x6]
  obtain ⟨_, e7, hf⟩ := bnd_x hf
  obtain ⟨x8, h9, e_x8, hf⟩ := bnd2_x hf
  refine go_callV_I (As := [.int x5, .int x6]) (st := []) (c_Mo_cellOf (d := 200) (by omega) e_x8) lk_Law_113 rfl rfl e7 (by decide) rfl ⟨by decide, by decide⟩ (Nat.le_of_ble_eq_true rfl) ⟨by show _ ≤ 601024; omega, by show _ ≤ 7293034; omega⟩ d_Law_law_653 ?_
  refine go_istore (lv' := [(6, .int x8), (5, .int x3), (0, .retAddr 1), (1, .ref a1), (2, .ref a2), (3, .ref a3), (4, .int i4)]) d_Law_law_656 rfl (by decide) ?_
  refine go_aload_n 4 d_Law_law_658 rfl ?_
  obtain ⟨_, e10, hf⟩ := bnd_x hf
  obtain ⟨x11, e_x11, hf⟩ := bnd_x hf
  refine go_callV_I (As := []) (st := []) (c_Mo_thrown (d := 200) (by omega) e_x11) lk_Law_88 rfl rfl e10 (by decide) rfl ⟨by decide, by decide⟩ (Nat.le_of_ble_eq_true rfl) ⟨by show _ ≤ 601024; omega, by show _ ≤ 7293034; omega⟩ d_Law_law_659 ?_
  refine go_iload 1 d_Law_law_662 rfl ?_
  refine go_icmp_eq 669 d_Law_law_664 (by decide) (fun q15 => ?_) (fun q15 => ?_)
  · rw [if_pos q15] at hf
    refine go_iload 1 d_Law_law_669 rfl ?_
    refine go_if_ne 686 d_Law_law_671 (by decide) (fun q14 => ?_) (fun q14 => ?_)
    · rw [if_neg q14] at hf
      refine go_goto 1454 d_Law_law_686 (by decide) ?_
      refine go_iinc (lv' := [(4, .int (i4 + (4 : Int32))), (6, .int x8), (5, .int x3), (0, .retAddr 1), (1, .ref a1), (2, .ref a2), (3, .ref a3)]) 6 (i4 + (4 : Int32)) d_Law_law_1454 rfl rfl rfl (by decide) ?_
      refine go_goto 23 d_Law_law_1457 (by decide) ?_
      refine go_sub (lv' := [(0, .retAddr 1), (1, .ref a1), (2, .ref a2), (3, .ref a3), (4, .int (i4 + (4 : Int32)))]) [3, 4, 5, 6, 0] rfl ?_
      exact hk a1 a2 a3 (i4 + (4 : Int32)) h9 _ _ _ (by omega) (by omega) hf
    · rw [if_pos q14] at hf
      refine go_aload_n 5 d_Law_law_674 rfl ?_
      refine go_iconst (0 : Int32) d_Law_law_675 (by decide) ?_
      obtain ⟨x12, e_x12, hf⟩ := bnd_x hf
      refine go_laload d_Law_law_676 e_x12 ?_
      refine go_iload 0 d_Law_law_677 rfl ?_
      refine go_i2l d_Law_law_679 ?_
      refine go_lcmp d_Law_law_680 ?_
      refine go_if_eq 686 d_Law_law_681 (by decide) (fun q13 => ?_) (fun q13 => ?_)
      · rw [if_pos q13] at hf
        refine go_goto 1454 d_Law_law_686 (by decide) ?_
        refine go_iinc (lv' := [(4, .int (i4 + (4 : Int32))), (6, .int x8), (5, .int x3), (0, .retAddr 1), (1, .ref a1), (2, .ref a2), (3, .ref a3)]) 6 (i4 + (4 : Int32)) d_Law_law_1454 rfl rfl rfl (by decide) ?_
        refine go_goto 23 d_Law_law_1457 (by decide) ?_
        refine go_sub (lv' := [(0, .retAddr 1), (1, .ref a1), (2, .ref a2), (3, .ref a3), (4, .int (i4 + (4 : Int32)))]) [3, 4, 5, 6, 0] rfl ?_
        exact hk a1 a2 a3 (i4 + (4 : Int32)) h9 _ _ _ (by omega) (by omega) hf
      · rw [if_neg q13] at hf
        refine go_iconst (0 : Int32) d_Law_law_684 (by decide) ?_
        exact absurd (Option.some.inj hf) (by decide)
  · rw [if_neg q15] at hf
    refine go_iconst (0 : Int32) d_Law_law_667 (by decide) ?_
    exact absurd (Option.some.inj hf) (by decide)
def b_Law_law_689 (F L : Nat) (xs : Nat → Int32) (k23 : Nat → Nat → Nat → Int32 → PH → Option Int32) (a1 : Nat) (a2 : Nat) (a3 : Nat) (i4 : Int32) (h : PH) : Option Int32 :=
  bnd (xI L xs (i4 + (1 : Int32))) fun x1 => bnd2 (f_Law_count F a1 x1 a3 h) fun x2 h3 => bnd (xI L xs (i4 + (1 : Int32))) fun x4 => bnd (cK h3 a2 10) fun _ => bnd2 (f_Mo_count F a2 x4 h3) fun x6 h7 => bnd (cK h7 a2 10) fun _ => bnd (f_Mo_thrown a2 h7) fun x9 => (if x9 = x2 then (if x2 = (0 : Int32) then bnd (aL h7 a3 (0 : Int32)) fun x10 => (if (lg_cmp x10 (x6.toInt64)) = (0 : Int32) then k23 a1 a2 a3 (i4 + (4 : Int32)) h7 else some (0 : Int32)) else k23 a1 a2 a3 (i4 + (4 : Int32)) h7) else some (0 : Int32))
theorem gl_689 {l : Launch} {E : ET} (hl : l.stackTraces = false) {F kc ks x : Nat} (hc : kc + 1 ≤ 601000 ∧ ks + 6 ≤ 7290000) {k23 : Nat → Nat → Nat → Int32 → PH → Option Int32} (hk : ∀ (a1 : Nat) (a2 : Nat) (a3 : Nat) (i4 : Int32) (hh : PH) (x' kc' ks' : Nat), kc' ≤ kc + 1 → ks' ≤ ks + 6 → k23 a1 a2 a3 i4 hh = some 1 → Go l E m_Law_law room_1 (KI (KLw E)) kc' ks' hh x' 23 [(0, .retAddr 1), (1, .ref a1), (2, .ref a2), (3, .ref a3), (4, .int i4)] []) (a1 : Nat) (a2 : Nat) (a3 : Nat) (i4 : Int32) (h : PH) (hf : b_Law_law_689 F (eL E) (eX E) k23 a1 a2 a3 i4 h = some 1) : Go l E m_Law_law room_1 (KI (KLw E)) kc ks h x 689 [(0, .retAddr 1), (1, .ref a1), (2, .ref a2), (3, .ref a3), (4, .int i4)] [] := by
  unfold b_Law_law_689 at hf
  refine go_aload_n 1 d_Law_law_689 rfl ?_
  refine go_aloadS_n 0 d_Law_law_690 rfl ?_
  refine go_iload 4 d_Law_law_691 rfl ?_
  refine go_iconst (1 : Int32) d_Law_law_693 (by decide) ?_
  refine go_iadd d_Law_law_694 ?_
  obtain ⟨x1, e_x1, hf⟩ := bnd_x hf
  obtain ⟨g_x1, q_x1⟩ := xI_x e_x1
  refine go_sload d_Law_law_695 g_x1 ?_
  rw [← q_x1]
  refine go_aload_n 3 d_Law_law_696 rfl ?_
  obtain ⟨x2, h3, e_x2, hf⟩ := bnd2_x hf
  refine go_callW (As := [.ref a1, .int x1, .ref a3]) (st := []) (c_Law_count hl (d := 200) (by omega) e_x2) lk_Law_114 rfl rfl ⟨by decide, by decide⟩ (Nat.le_of_ble_eq_true rfl) ⟨by show _ ≤ 601024; omega, by show _ ≤ 7293034; omega⟩ d_Law_law_697 (fun x => ?_)
  refine go_istore (lv' := [(5, .int x2), (0, .retAddr 1), (1, .ref a1), (2, .ref a2), (3, .ref a3), (4, .int i4)]) d_Law_law_700 rfl (by decide) ?_
  refine go_aload_n 3 d_Law_law_702 rfl ?_
  refine go_aloadS_n 1 d_Law_law_703 rfl ?_
  refine go_iload 5 d_Law_law_704 rfl ?_
  refine go_iconst (1 : Int32) d_Law_law_706 (by decide) ?_
  refine go_iadd d_Law_law_707 ?_
  obtain ⟨x4, e_x4, hf⟩ := bnd_x hf
  obtain ⟨g_x4, q_x4⟩ := xI_x e_x4
  refine go_sload d_Law_law_708 g_x4 ?_
  rw [← q_x4]
  obtain ⟨_, e5, hf⟩ := bnd_x hf
  obtain ⟨x6, h7, e_x6, hf⟩ := bnd2_x hf
  refine go_callV_I (As := [.int x4]) (st := []) (c_Mo_count (d := 200) (by omega) e_x6) lk_Law_117 rfl rfl e5 (by decide) rfl ⟨by decide, by decide⟩ (Nat.le_of_ble_eq_true rfl) ⟨by show _ ≤ 601024; omega, by show _ ≤ 7293034; omega⟩ d_Law_law_709 ?_
  refine go_istore (lv' := [(6, .int x6), (5, .int x2), (0, .retAddr 1), (1, .ref a1), (2, .ref a2), (3, .ref a3), (4, .int i4)]) d_Law_law_712 rfl (by decide) ?_
  refine go_aload_n 4 d_Law_law_714 rfl ?_
  obtain ⟨_, e8, hf⟩ := bnd_x hf
  obtain ⟨x9, e_x9, hf⟩ := bnd_x hf
  refine go_callV_I (As := []) (st := []) (c_Mo_thrown (d := 200) (by omega) e_x9) lk_Law_88 rfl rfl e8 (by decide) rfl ⟨by decide, by decide⟩ (Nat.le_of_ble_eq_true rfl) ⟨by show _ ≤ 601024; omega, by show _ ≤ 7293034; omega⟩ d_Law_law_715 ?_
  refine go_iload 1 d_Law_law_718 rfl ?_
  refine go_icmp_eq 725 d_Law_law_720 (by decide) (fun q13 => ?_) (fun q13 => ?_)
  · rw [if_pos q13] at hf
    refine go_iload 1 d_Law_law_725 rfl ?_
    refine go_if_ne 742 d_Law_law_727 (by decide) (fun q12 => ?_) (fun q12 => ?_)
    · rw [if_neg q12] at hf
      refine go_goto 1454 d_Law_law_742 (by decide) ?_
      refine go_iinc (lv' := [(4, .int (i4 + (4 : Int32))), (6, .int x6), (5, .int x2), (0, .retAddr 1), (1, .ref a1), (2, .ref a2), (3, .ref a3)]) 6 (i4 + (4 : Int32)) d_Law_law_1454 rfl rfl rfl (by decide) ?_
      refine go_goto 23 d_Law_law_1457 (by decide) ?_
      refine go_sub (lv' := [(0, .retAddr 1), (1, .ref a1), (2, .ref a2), (3, .ref a3), (4, .int (i4 + (4 : Int32)))]) [3, 4, 5, 6, 0] rfl ?_
      exact hk a1 a2 a3 (i4 + (4 : Int32)) h7 _ _ _ (by omega) (by omega) hf
    · rw [if_pos q12] at hf
      refine go_aload_n 5 d_Law_law_730 rfl ?_
      refine go_iconst (0 : Int32) d_Law_law_731 (by decide) ?_
      obtain ⟨x10, e_x10, hf⟩ := bnd_x hf
      refine go_laload d_Law_law_732 e_x10 ?_
      refine go_iload 0 d_Law_law_733 rfl ?_
      refine go_i2l d_Law_law_735 ?_
      refine go_lcmp d_Law_law_736 ?_
      refine go_if_eq 742 d_Law_law_737 (by decide) (fun q11 => ?_) (fun q11 => ?_)
      · rw [if_pos q11] at hf
        refine go_goto 1454 d_Law_law_742 (by decide) ?_
        refine go_iinc (lv' := [(4, .int (i4 + (4 : Int32))), (6, .int x6), (5, .int x2), (0, .retAddr 1), (1, .ref a1), (2, .ref a2), (3, .ref a3)]) 6 (i4 + (4 : Int32)) d_Law_law_1454 rfl rfl rfl (by decide) ?_
        refine go_goto 23 d_Law_law_1457 (by decide) ?_
        refine go_sub (lv' := [(0, .retAddr 1), (1, .ref a1), (2, .ref a2), (3, .ref a3), (4, .int (i4 + (4 : Int32)))]) [3, 4, 5, 6, 0] rfl ?_
        exact hk a1 a2 a3 (i4 + (4 : Int32)) h7 _ _ _ (by omega) (by omega) hf
      · rw [if_neg q11] at hf
        refine go_iconst (0 : Int32) d_Law_law_740 (by decide) ?_
        exact absurd (Option.some.inj hf) (by decide)
  · rw [if_neg q13] at hf
    refine go_iconst (0 : Int32) d_Law_law_723 (by decide) ?_
    exact absurd (Option.some.inj hf) (by decide)
def b_Law_law_745 (F L : Nat) (xs : Nat → Int32) (k23 : Nat → Nat → Nat → Int32 → PH → Option Int32) (a1 : Nat) (a2 : Nat) (a3 : Nat) (i4 : Int32) (h : PH) : Option Int32 :=
  bnd (xI L xs (i4 + (1 : Int32))) fun x1 => bnd2 (f_Law_candidates F a1 x1 a3 h) fun x2 h3 => bnd (xI L xs (i4 + (1 : Int32))) fun x4 => bnd (cK h3 a2 10) fun _ => bnd2 (f_Mo_candidates a2 x4 h3) fun x6 h7 => bnd (cK h7 a2 10) fun _ => bnd (f_Mo_thrown a2 h7) fun x9 => (if x9 = x2 then (if x2 = (0 : Int32) then bnd (aL h7 a3 (0 : Int32)) fun x10 => (if (lg_cmp x10 (x6.toInt64)) = (0 : Int32) then k23 a1 a2 a3 (i4 + (4 : Int32)) h7 else some (0 : Int32)) else k23 a1 a2 a3 (i4 + (4 : Int32)) h7) else some (0 : Int32))
theorem gl_745 {l : Launch} {E : ET} (hl : l.stackTraces = false) {F kc ks x : Nat} (hc : kc + 1 ≤ 601000 ∧ ks + 6 ≤ 7290000) {k23 : Nat → Nat → Nat → Int32 → PH → Option Int32} (hk : ∀ (a1 : Nat) (a2 : Nat) (a3 : Nat) (i4 : Int32) (hh : PH) (x' kc' ks' : Nat), kc' ≤ kc + 1 → ks' ≤ ks + 6 → k23 a1 a2 a3 i4 hh = some 1 → Go l E m_Law_law room_1 (KI (KLw E)) kc' ks' hh x' 23 [(0, .retAddr 1), (1, .ref a1), (2, .ref a2), (3, .ref a3), (4, .int i4)] []) (a1 : Nat) (a2 : Nat) (a3 : Nat) (i4 : Int32) (h : PH) (hf : b_Law_law_745 F (eL E) (eX E) k23 a1 a2 a3 i4 h = some 1) : Go l E m_Law_law room_1 (KI (KLw E)) kc ks h x 745 [(0, .retAddr 1), (1, .ref a1), (2, .ref a2), (3, .ref a3), (4, .int i4)] [] := by
  unfold b_Law_law_745 at hf
  refine go_aload_n 1 d_Law_law_745 rfl ?_
  refine go_aloadS_n 0 d_Law_law_746 rfl ?_
  refine go_iload 4 d_Law_law_747 rfl ?_
  refine go_iconst (1 : Int32) d_Law_law_749 (by decide) ?_
  refine go_iadd d_Law_law_750 ?_
  obtain ⟨x1, e_x1, hf⟩ := bnd_x hf
  obtain ⟨g_x1, q_x1⟩ := xI_x e_x1
  refine go_sload d_Law_law_751 g_x1 ?_
  rw [← q_x1]
  refine go_aload_n 3 d_Law_law_752 rfl ?_
  obtain ⟨x2, h3, e_x2, hf⟩ := bnd2_x hf
  refine go_callW (As := [.ref a1, .int x1, .ref a3]) (st := []) (c_Law_candidates hl (d := 200) (by omega) e_x2) lk_Law_118 rfl rfl ⟨by decide, by decide⟩ (Nat.le_of_ble_eq_true rfl) ⟨by show _ ≤ 601024; omega, by show _ ≤ 7293034; omega⟩ d_Law_law_753 (fun x => ?_)
  refine go_istore (lv' := [(5, .int x2), (0, .retAddr 1), (1, .ref a1), (2, .ref a2), (3, .ref a3), (4, .int i4)]) d_Law_law_756 rfl (by decide) ?_
  refine go_aload_n 3 d_Law_law_758 rfl ?_
  refine go_aloadS_n 1 d_Law_law_759 rfl ?_
  refine go_iload 5 d_Law_law_760 rfl ?_
  refine go_iconst (1 : Int32) d_Law_law_762 (by decide) ?_
  refine go_iadd d_Law_law_763 ?_
  obtain ⟨x4, e_x4, hf⟩ := bnd_x hf
  obtain ⟨g_x4, q_x4⟩ := xI_x e_x4
  refine go_sload d_Law_law_764 g_x4 ?_
  rw [← q_x4]
  obtain ⟨_, e5, hf⟩ := bnd_x hf
  obtain ⟨x6, h7, e_x6, hf⟩ := bnd2_x hf
  refine go_callV_I (As := [.int x4]) (st := []) (c_Mo_candidates (d := 200) (by omega) e_x6) lk_Law_120 rfl rfl e5 (by decide) rfl ⟨by decide, by decide⟩ (Nat.le_of_ble_eq_true rfl) ⟨by show _ ≤ 601024; omega, by show _ ≤ 7293034; omega⟩ d_Law_law_765 ?_
  refine go_istore (lv' := [(6, .int x6), (5, .int x2), (0, .retAddr 1), (1, .ref a1), (2, .ref a2), (3, .ref a3), (4, .int i4)]) d_Law_law_768 rfl (by decide) ?_
  refine go_aload_n 4 d_Law_law_770 rfl ?_
  obtain ⟨_, e8, hf⟩ := bnd_x hf
  obtain ⟨x9, e_x9, hf⟩ := bnd_x hf
  refine go_callV_I (As := []) (st := []) (c_Mo_thrown (d := 200) (by omega) e_x9) lk_Law_88 rfl rfl e8 (by decide) rfl ⟨by decide, by decide⟩ (Nat.le_of_ble_eq_true rfl) ⟨by show _ ≤ 601024; omega, by show _ ≤ 7293034; omega⟩ d_Law_law_771 ?_
  refine go_iload 1 d_Law_law_774 rfl ?_
  refine go_icmp_eq 781 d_Law_law_776 (by decide) (fun q13 => ?_) (fun q13 => ?_)
  · rw [if_pos q13] at hf
    refine go_iload 1 d_Law_law_781 rfl ?_
    refine go_if_ne 798 d_Law_law_783 (by decide) (fun q12 => ?_) (fun q12 => ?_)
    · rw [if_neg q12] at hf
      refine go_goto 1454 d_Law_law_798 (by decide) ?_
      refine go_iinc (lv' := [(4, .int (i4 + (4 : Int32))), (6, .int x6), (5, .int x2), (0, .retAddr 1), (1, .ref a1), (2, .ref a2), (3, .ref a3)]) 6 (i4 + (4 : Int32)) d_Law_law_1454 rfl rfl rfl (by decide) ?_
      refine go_goto 23 d_Law_law_1457 (by decide) ?_
      refine go_sub (lv' := [(0, .retAddr 1), (1, .ref a1), (2, .ref a2), (3, .ref a3), (4, .int (i4 + (4 : Int32)))]) [3, 4, 5, 6, 0] rfl ?_
      exact hk a1 a2 a3 (i4 + (4 : Int32)) h7 _ _ _ (by omega) (by omega) hf
    · rw [if_pos q12] at hf
      refine go_aload_n 5 d_Law_law_786 rfl ?_
      refine go_iconst (0 : Int32) d_Law_law_787 (by decide) ?_
      obtain ⟨x10, e_x10, hf⟩ := bnd_x hf
      refine go_laload d_Law_law_788 e_x10 ?_
      refine go_iload 0 d_Law_law_789 rfl ?_
      refine go_i2l d_Law_law_791 ?_
      refine go_lcmp d_Law_law_792 ?_
      refine go_if_eq 798 d_Law_law_793 (by decide) (fun q11 => ?_) (fun q11 => ?_)
      · rw [if_pos q11] at hf
        refine go_goto 1454 d_Law_law_798 (by decide) ?_
        refine go_iinc (lv' := [(4, .int (i4 + (4 : Int32))), (6, .int x6), (5, .int x2), (0, .retAddr 1), (1, .ref a1), (2, .ref a2), (3, .ref a3)]) 6 (i4 + (4 : Int32)) d_Law_law_1454 rfl rfl rfl (by decide) ?_
        refine go_goto 23 d_Law_law_1457 (by decide) ?_
        refine go_sub (lv' := [(0, .retAddr 1), (1, .ref a1), (2, .ref a2), (3, .ref a3), (4, .int (i4 + (4 : Int32)))]) [3, 4, 5, 6, 0] rfl ?_
        exact hk a1 a2 a3 (i4 + (4 : Int32)) h7 _ _ _ (by omega) (by omega) hf
      · rw [if_neg q11] at hf
        refine go_iconst (0 : Int32) d_Law_law_796 (by decide) ?_
        exact absurd (Option.some.inj hf) (by decide)
  · rw [if_neg q13] at hf
    refine go_iconst (0 : Int32) d_Law_law_779 (by decide) ?_
    exact absurd (Option.some.inj hf) (by decide)
def b_Law_law_801 (F L : Nat) (xs : Nat → Int32) (k23 : Nat → Nat → Nat → Int32 → PH → Option Int32) (a1 : Nat) (a2 : Nat) (a3 : Nat) (i4 : Int32) (h : PH) : Option Int32 :=
  bnd (xI L xs (i4 + (1 : Int32))) fun x1 => bnd (xI L xs (i4 + (2 : Int32))) fun x2 => bnd2 (f_Law_cell F a1 x1 x2 a3 h) fun x3 h4 => bnd (xI L xs (i4 + (1 : Int32))) fun x5 => bnd (xI L xs (i4 + (2 : Int32))) fun x6 => bnd (cK h4 a2 10) fun _ => bnd2 (f_Mo_cell F a2 x5 x6 h4) fun x8 h9 => bnd (cK h9 a2 10) fun _ => bnd (f_Mo_thrown a2 h9) fun x11 => (if x11 = x3 then (if x3 = (0 : Int32) then bnd (aL h9 a3 (0 : Int32)) fun x12 => (if (lg_cmp x12 (x8.toInt64)) = (0 : Int32) then k23 a1 a2 a3 (i4 + (4 : Int32)) h9 else some (0 : Int32)) else k23 a1 a2 a3 (i4 + (4 : Int32)) h9) else some (0 : Int32))
theorem gl_801 {l : Launch} {E : ET} (hl : l.stackTraces = false) {F kc ks x : Nat} (hc : kc + 1 ≤ 601000 ∧ ks + 6 ≤ 7290000) {k23 : Nat → Nat → Nat → Int32 → PH → Option Int32} (hk : ∀ (a1 : Nat) (a2 : Nat) (a3 : Nat) (i4 : Int32) (hh : PH) (x' kc' ks' : Nat), kc' ≤ kc + 1 → ks' ≤ ks + 6 → k23 a1 a2 a3 i4 hh = some 1 → Go l E m_Law_law room_1 (KI (KLw E)) kc' ks' hh x' 23 [(0, .retAddr 1), (1, .ref a1), (2, .ref a2), (3, .ref a3), (4, .int i4)] []) (a1 : Nat) (a2 : Nat) (a3 : Nat) (i4 : Int32) (h : PH) (hf : b_Law_law_801 F (eL E) (eX E) k23 a1 a2 a3 i4 h = some 1) : Go l E m_Law_law room_1 (KI (KLw E)) kc ks h x 801 [(0, .retAddr 1), (1, .ref a1), (2, .ref a2), (3, .ref a3), (4, .int i4)] [] := by
  unfold b_Law_law_801 at hf
  refine go_aload_n 1 d_Law_law_801 rfl ?_
  refine go_aloadS_n 0 d_Law_law_802 rfl ?_
  refine go_iload 4 d_Law_law_803 rfl ?_
  refine go_iconst (1 : Int32) d_Law_law_805 (by decide) ?_
  refine go_iadd d_Law_law_806 ?_
  obtain ⟨x1, e_x1, hf⟩ := bnd_x hf
  obtain ⟨g_x1, q_x1⟩ := xI_x e_x1
  refine go_sload d_Law_law_807 g_x1 ?_
  rw [← q_x1]
  refine go_aloadS_n 0 d_Law_law_808 rfl ?_
  refine go_iload 4 d_Law_law_809 rfl ?_
  refine go_iconst (2 : Int32) d_Law_law_811 (by decide) ?_
  refine go_iadd d_Law_law_812 ?_
  obtain ⟨x2, e_x2, hf⟩ := bnd_x hf
  obtain ⟨g_x2, q_x2⟩ := xI_x e_x2
  refine go_sload d_Law_law_813 g_x2 ?_
  rw [← q_x2]
  refine go_aload_n 3 d_Law_law_814 rfl ?_
  obtain ⟨x3, h4, e_x3, hf⟩ := bnd2_x hf
  refine go_callW (As := [.ref a1, .int x1, .int x2, .ref a3]) (st := []) (c_Law_cell hl (d := 200) (by omega) e_x3) lk_Law_121 rfl rfl ⟨by decide, by decide⟩ (Nat.le_of_ble_eq_true rfl) ⟨by show _ ≤ 601024; omega, by show _ ≤ 7293034; omega⟩ d_Law_law_815 (fun x => ?_)
  refine go_istore (lv' := [(5, .int x3), (0, .retAddr 1), (1, .ref a1), (2, .ref a2), (3, .ref a3), (4, .int i4)]) d_Law_law_818 rfl (by decide) ?_
  refine go_aload_n 3 d_Law_law_820 rfl ?_
  refine go_aloadS_n 1 d_Law_law_821 rfl ?_
  refine go_iload 5 d_Law_law_822 rfl ?_
  refine go_iconst (1 : Int32) d_Law_law_824 (by decide) ?_
  refine go_iadd d_Law_law_825 ?_
  obtain ⟨x5, e_x5, hf⟩ := bnd_x hf
  obtain ⟨g_x5, q_x5⟩ := xI_x e_x5
  refine go_sload d_Law_law_826 g_x5 ?_
  rw [← q_x5]
  refine go_aloadS_n 1 d_Law_law_827 rfl ?_
  refine go_iload 5 d_Law_law_828 rfl ?_
  refine go_iconst (2 : Int32) d_Law_law_830 (by decide) ?_
  refine go_iadd d_Law_law_831 ?_
  obtain ⟨x6, e_x6, hf⟩ := bnd_x hf
  obtain ⟨g_x6, q_x6⟩ := xI_x e_x6
  refine go_sload d_Law_law_832 g_x6 ?_
  rw [← q_x6]
  obtain ⟨_, e7, hf⟩ := bnd_x hf
  obtain ⟨x8, h9, e_x8, hf⟩ := bnd2_x hf
  refine go_callV_I (As := [.int x5, .int x6]) (st := []) (c_Mo_cell (d := 200) (by omega) e_x8) lk_Law_123 rfl rfl e7 (by decide) rfl ⟨by decide, by decide⟩ (Nat.le_of_ble_eq_true rfl) ⟨by show _ ≤ 601024; omega, by show _ ≤ 7293034; omega⟩ d_Law_law_833 ?_
  refine go_istore (lv' := [(6, .int x8), (5, .int x3), (0, .retAddr 1), (1, .ref a1), (2, .ref a2), (3, .ref a3), (4, .int i4)]) d_Law_law_836 rfl (by decide) ?_
  refine go_aload_n 4 d_Law_law_838 rfl ?_
  obtain ⟨_, e10, hf⟩ := bnd_x hf
  obtain ⟨x11, e_x11, hf⟩ := bnd_x hf
  refine go_callV_I (As := []) (st := []) (c_Mo_thrown (d := 200) (by omega) e_x11) lk_Law_88 rfl rfl e10 (by decide) rfl ⟨by decide, by decide⟩ (Nat.le_of_ble_eq_true rfl) ⟨by show _ ≤ 601024; omega, by show _ ≤ 7293034; omega⟩ d_Law_law_839 ?_
  refine go_iload 1 d_Law_law_842 rfl ?_
  refine go_icmp_eq 849 d_Law_law_844 (by decide) (fun q15 => ?_) (fun q15 => ?_)
  · rw [if_pos q15] at hf
    refine go_iload 1 d_Law_law_849 rfl ?_
    refine go_if_ne 866 d_Law_law_851 (by decide) (fun q14 => ?_) (fun q14 => ?_)
    · rw [if_neg q14] at hf
      refine go_goto 1454 d_Law_law_866 (by decide) ?_
      refine go_iinc (lv' := [(4, .int (i4 + (4 : Int32))), (6, .int x8), (5, .int x3), (0, .retAddr 1), (1, .ref a1), (2, .ref a2), (3, .ref a3)]) 6 (i4 + (4 : Int32)) d_Law_law_1454 rfl rfl rfl (by decide) ?_
      refine go_goto 23 d_Law_law_1457 (by decide) ?_
      refine go_sub (lv' := [(0, .retAddr 1), (1, .ref a1), (2, .ref a2), (3, .ref a3), (4, .int (i4 + (4 : Int32)))]) [3, 4, 5, 6, 0] rfl ?_
      exact hk a1 a2 a3 (i4 + (4 : Int32)) h9 _ _ _ (by omega) (by omega) hf
    · rw [if_pos q14] at hf
      refine go_aload_n 5 d_Law_law_854 rfl ?_
      refine go_iconst (0 : Int32) d_Law_law_855 (by decide) ?_
      obtain ⟨x12, e_x12, hf⟩ := bnd_x hf
      refine go_laload d_Law_law_856 e_x12 ?_
      refine go_iload 0 d_Law_law_857 rfl ?_
      refine go_i2l d_Law_law_859 ?_
      refine go_lcmp d_Law_law_860 ?_
      refine go_if_eq 866 d_Law_law_861 (by decide) (fun q13 => ?_) (fun q13 => ?_)
      · rw [if_pos q13] at hf
        refine go_goto 1454 d_Law_law_866 (by decide) ?_
        refine go_iinc (lv' := [(4, .int (i4 + (4 : Int32))), (6, .int x8), (5, .int x3), (0, .retAddr 1), (1, .ref a1), (2, .ref a2), (3, .ref a3)]) 6 (i4 + (4 : Int32)) d_Law_law_1454 rfl rfl rfl (by decide) ?_
        refine go_goto 23 d_Law_law_1457 (by decide) ?_
        refine go_sub (lv' := [(0, .retAddr 1), (1, .ref a1), (2, .ref a2), (3, .ref a3), (4, .int (i4 + (4 : Int32)))]) [3, 4, 5, 6, 0] rfl ?_
        exact hk a1 a2 a3 (i4 + (4 : Int32)) h9 _ _ _ (by omega) (by omega) hf
      · rw [if_neg q13] at hf
        refine go_iconst (0 : Int32) d_Law_law_864 (by decide) ?_
        exact absurd (Option.some.inj hf) (by decide)
  · rw [if_neg q15] at hf
    refine go_iconst (0 : Int32) d_Law_law_847 (by decide) ?_
    exact absurd (Option.some.inj hf) (by decide)
def b_Law_law_869 (F L : Nat) (xs : Nat → Int32) (k23 : Nat → Nat → Nat → Int32 → PH → Option Int32) (a1 : Nat) (a2 : Nat) (a3 : Nat) (i4 : Int32) (h : PH) : Option Int32 :=
  bnd (xI L xs (i4 + (1 : Int32))) fun x1 => bnd2 (f_Law_deduce F a1 x1 a3 h) fun x2 h3 => bnd (xI L xs (i4 + (1 : Int32))) fun x4 => bnd (cK h3 a2 10) fun _ => bnd2 (f_Mo_deduce F a2 x4 h3) fun x6 h7 => bnd (cK h7 a2 10) fun _ => bnd (f_Mo_thrown a2 h7) fun x9 => (if x9 = x2 then (if x2 = (0 : Int32) then bnd (aL h7 a3 (0 : Int32)) fun x10 => (if (lg_cmp x10 (x6.toInt64)) = (0 : Int32) then k23 a1 a2 a3 (i4 + (4 : Int32)) h7 else some (0 : Int32)) else k23 a1 a2 a3 (i4 + (4 : Int32)) h7) else some (0 : Int32))
theorem gl_869 {l : Launch} {E : ET} (hl : l.stackTraces = false) {F kc ks x : Nat} (hc : kc + 1 ≤ 601000 ∧ ks + 6 ≤ 7290000) {k23 : Nat → Nat → Nat → Int32 → PH → Option Int32} (hk : ∀ (a1 : Nat) (a2 : Nat) (a3 : Nat) (i4 : Int32) (hh : PH) (x' kc' ks' : Nat), kc' ≤ kc + 1 → ks' ≤ ks + 6 → k23 a1 a2 a3 i4 hh = some 1 → Go l E m_Law_law room_1 (KI (KLw E)) kc' ks' hh x' 23 [(0, .retAddr 1), (1, .ref a1), (2, .ref a2), (3, .ref a3), (4, .int i4)] []) (a1 : Nat) (a2 : Nat) (a3 : Nat) (i4 : Int32) (h : PH) (hf : b_Law_law_869 F (eL E) (eX E) k23 a1 a2 a3 i4 h = some 1) : Go l E m_Law_law room_1 (KI (KLw E)) kc ks h x 869 [(0, .retAddr 1), (1, .ref a1), (2, .ref a2), (3, .ref a3), (4, .int i4)] [] := by
  unfold b_Law_law_869 at hf
  refine go_aload_n 1 d_Law_law_869 rfl ?_
  refine go_aloadS_n 0 d_Law_law_870 rfl ?_
  refine go_iload 4 d_Law_law_871 rfl ?_
  refine go_iconst (1 : Int32) d_Law_law_873 (by decide) ?_
  refine go_iadd d_Law_law_874 ?_
  obtain ⟨x1, e_x1, hf⟩ := bnd_x hf
  obtain ⟨g_x1, q_x1⟩ := xI_x e_x1
  refine go_sload d_Law_law_875 g_x1 ?_
  rw [← q_x1]
  refine go_aload_n 3 d_Law_law_876 rfl ?_
  obtain ⟨x2, h3, e_x2, hf⟩ := bnd2_x hf
  refine go_callW (As := [.ref a1, .int x1, .ref a3]) (st := []) (c_Law_deduce hl (d := 200) (by omega) e_x2) lk_Law_124 rfl rfl ⟨by decide, by decide⟩ (Nat.le_of_ble_eq_true rfl) ⟨by show _ ≤ 601024; omega, by show _ ≤ 7293034; omega⟩ d_Law_law_877 (fun x => ?_)
  refine go_istore (lv' := [(5, .int x2), (0, .retAddr 1), (1, .ref a1), (2, .ref a2), (3, .ref a3), (4, .int i4)]) d_Law_law_880 rfl (by decide) ?_
  refine go_aload_n 3 d_Law_law_882 rfl ?_
  refine go_aloadS_n 1 d_Law_law_883 rfl ?_
  refine go_iload 5 d_Law_law_884 rfl ?_
  refine go_iconst (1 : Int32) d_Law_law_886 (by decide) ?_
  refine go_iadd d_Law_law_887 ?_
  obtain ⟨x4, e_x4, hf⟩ := bnd_x hf
  obtain ⟨g_x4, q_x4⟩ := xI_x e_x4
  refine go_sload d_Law_law_888 g_x4 ?_
  rw [← q_x4]
  obtain ⟨_, e5, hf⟩ := bnd_x hf
  obtain ⟨x6, h7, e_x6, hf⟩ := bnd2_x hf
  refine go_callV_I (As := [.int x4]) (st := []) (c_Mo_deduce (d := 200) (by omega) e_x6) lk_Law_126 rfl rfl e5 (by decide) rfl ⟨by decide, by decide⟩ (Nat.le_of_ble_eq_true rfl) ⟨by show _ ≤ 601024; omega, by show _ ≤ 7293034; omega⟩ d_Law_law_889 ?_
  refine go_istore (lv' := [(6, .int x6), (5, .int x2), (0, .retAddr 1), (1, .ref a1), (2, .ref a2), (3, .ref a3), (4, .int i4)]) d_Law_law_892 rfl (by decide) ?_
  refine go_aload_n 4 d_Law_law_894 rfl ?_
  obtain ⟨_, e8, hf⟩ := bnd_x hf
  obtain ⟨x9, e_x9, hf⟩ := bnd_x hf
  refine go_callV_I (As := []) (st := []) (c_Mo_thrown (d := 200) (by omega) e_x9) lk_Law_88 rfl rfl e8 (by decide) rfl ⟨by decide, by decide⟩ (Nat.le_of_ble_eq_true rfl) ⟨by show _ ≤ 601024; omega, by show _ ≤ 7293034; omega⟩ d_Law_law_895 ?_
  refine go_iload 1 d_Law_law_898 rfl ?_
  refine go_icmp_eq 905 d_Law_law_900 (by decide) (fun q13 => ?_) (fun q13 => ?_)
  · rw [if_pos q13] at hf
    refine go_iload 1 d_Law_law_905 rfl ?_
    refine go_if_ne 922 d_Law_law_907 (by decide) (fun q12 => ?_) (fun q12 => ?_)
    · rw [if_neg q12] at hf
      refine go_goto 1454 d_Law_law_922 (by decide) ?_
      refine go_iinc (lv' := [(4, .int (i4 + (4 : Int32))), (6, .int x6), (5, .int x2), (0, .retAddr 1), (1, .ref a1), (2, .ref a2), (3, .ref a3)]) 6 (i4 + (4 : Int32)) d_Law_law_1454 rfl rfl rfl (by decide) ?_
      refine go_goto 23 d_Law_law_1457 (by decide) ?_
      refine go_sub (lv' := [(0, .retAddr 1), (1, .ref a1), (2, .ref a2), (3, .ref a3), (4, .int (i4 + (4 : Int32)))]) [3, 4, 5, 6, 0] rfl ?_
      exact hk a1 a2 a3 (i4 + (4 : Int32)) h7 _ _ _ (by omega) (by omega) hf
    · rw [if_pos q12] at hf
      refine go_aload_n 5 d_Law_law_910 rfl ?_
      refine go_iconst (0 : Int32) d_Law_law_911 (by decide) ?_
      obtain ⟨x10, e_x10, hf⟩ := bnd_x hf
      refine go_laload d_Law_law_912 e_x10 ?_
      refine go_iload 0 d_Law_law_913 rfl ?_
      refine go_i2l d_Law_law_915 ?_
      refine go_lcmp d_Law_law_916 ?_
      refine go_if_eq 922 d_Law_law_917 (by decide) (fun q11 => ?_) (fun q11 => ?_)
      · rw [if_pos q11] at hf
        refine go_goto 1454 d_Law_law_922 (by decide) ?_
        refine go_iinc (lv' := [(4, .int (i4 + (4 : Int32))), (6, .int x6), (5, .int x2), (0, .retAddr 1), (1, .ref a1), (2, .ref a2), (3, .ref a3)]) 6 (i4 + (4 : Int32)) d_Law_law_1454 rfl rfl rfl (by decide) ?_
        refine go_goto 23 d_Law_law_1457 (by decide) ?_
        refine go_sub (lv' := [(0, .retAddr 1), (1, .ref a1), (2, .ref a2), (3, .ref a3), (4, .int (i4 + (4 : Int32)))]) [3, 4, 5, 6, 0] rfl ?_
        exact hk a1 a2 a3 (i4 + (4 : Int32)) h7 _ _ _ (by omega) (by omega) hf
      · rw [if_neg q11] at hf
        refine go_iconst (0 : Int32) d_Law_law_920 (by decide) ?_
        exact absurd (Option.some.inj hf) (by decide)
  · rw [if_neg q13] at hf
    refine go_iconst (0 : Int32) d_Law_law_903 (by decide) ?_
    exact absurd (Option.some.inj hf) (by decide)
def b_Law_law_925 (F L : Nat) (xs : Nat → Int32) (k23 : Nat → Nat → Nat → Int32 → PH → Option Int32) (a1 : Nat) (a2 : Nat) (a3 : Nat) (i4 : Int32) (h : PH) : Option Int32 :=
  bnd (cK h a1 9) fun _ => bnd2 (f_Np_hint F a1 h) fun x2 h3 => bnd (cK h3 a2 10) fun _ => bnd2 (f_Mo_hint F a2 h3) fun x5 h6 => (if x2 = x5 then k23 a1 a2 a3 (i4 + (4 : Int32)) h6 else some (0 : Int32))
theorem gl_925 {l : Launch} {E : ET} (hl : l.stackTraces = false) {F kc ks x : Nat} (hc : kc + 1 ≤ 601000 ∧ ks + 6 ≤ 7290000) {k23 : Nat → Nat → Nat → Int32 → PH → Option Int32} (hk : ∀ (a1 : Nat) (a2 : Nat) (a3 : Nat) (i4 : Int32) (hh : PH) (x' kc' ks' : Nat), kc' ≤ kc + 1 → ks' ≤ ks + 6 → k23 a1 a2 a3 i4 hh = some 1 → Go l E m_Law_law room_1 (KI (KLw E)) kc' ks' hh x' 23 [(0, .retAddr 1), (1, .ref a1), (2, .ref a2), (3, .ref a3), (4, .int i4)] []) (a1 : Nat) (a2 : Nat) (a3 : Nat) (i4 : Int32) (h : PH) (hf : b_Law_law_925 F (eL E) (eX E) k23 a1 a2 a3 i4 h = some 1) : Go l E m_Law_law room_1 (KI (KLw E)) kc ks h x 925 [(0, .retAddr 1), (1, .ref a1), (2, .ref a2), (3, .ref a3), (4, .int i4)] [] := by
  unfold b_Law_law_925 at hf
  refine go_aload_n 1 d_Law_law_925 rfl ?_
  obtain ⟨_, e1, hf⟩ := bnd_x hf
  obtain ⟨x2, h3, e_x2, hf⟩ := bnd2_x hf
  refine go_callV_I (As := []) (st := []) (c_Np_hint (d := 200) (by omega) e_x2) lk_Law_127 rfl rfl e1 (by decide) rfl ⟨by decide, by decide⟩ (Nat.le_of_ble_eq_true rfl) ⟨by show _ ≤ 601024; omega, by show _ ≤ 7293034; omega⟩ d_Law_law_926 ?_
  refine go_aload_n 2 d_Law_law_929 rfl ?_
  obtain ⟨_, e4, hf⟩ := bnd_x hf
  obtain ⟨x5, h6, e_x5, hf⟩ := bnd2_x hf
  refine go_callV_I (As := []) (st := [.int x2]) (c_Mo_hint (d := 200) (by omega) e_x5) lk_Law_130 rfl rfl e4 (by decide) rfl ⟨by decide, by decide⟩ (Nat.le_of_ble_eq_true rfl) ⟨by show _ ≤ 601024; omega, by show _ ≤ 7293034; omega⟩ d_Law_law_930 ?_
  refine go_icmp_eq 1454 d_Law_law_933 (by decide) (fun q7 => ?_) (fun q7 => ?_)
  · rw [if_pos q7] at hf
    refine go_iinc (lv' := [(4, .int (i4 + (4 : Int32))), (0, .retAddr 1), (1, .ref a1), (2, .ref a2), (3, .ref a3)]) 4 (i4 + (4 : Int32)) d_Law_law_1454 rfl rfl rfl (by decide) ?_
    refine go_goto 23 d_Law_law_1457 (by decide) ?_
    refine go_sub (lv' := [(0, .retAddr 1), (1, .ref a1), (2, .ref a2), (3, .ref a3), (4, .int (i4 + (4 : Int32)))]) [1, 2, 3, 4, 0] rfl ?_
    exact hk a1 a2 a3 (i4 + (4 : Int32)) h6 _ _ _ (by omega) (by omega) hf
  · rw [if_neg q7] at hf
    refine go_iconst (0 : Int32) d_Law_law_936 (by decide) ?_
    exact absurd (Option.some.inj hf) (by decide)
def b_Law_law_938 (F L : Nat) (xs : Nat → Int32) (k23 : Nat → Nat → Nat → Int32 → PH → Option Int32) (a1 : Nat) (a2 : Nat) (a3 : Nat) (i4 : Int32) (h : PH) : Option Int32 :=
  bnd (cK h a1 9) fun _ => bnd2 (f_Np_hintPlace F a1 h) fun x2 h3 => bnd (cK h3 a2 10) fun _ => bnd2 (f_Mo_hintPlace F a2 h3) fun x5 h6 => (if x2 = x5 then k23 a1 a2 a3 (i4 + (4 : Int32)) h6 else some (0 : Int32))
theorem gl_938 {l : Launch} {E : ET} (hl : l.stackTraces = false) {F kc ks x : Nat} (hc : kc + 1 ≤ 601000 ∧ ks + 6 ≤ 7290000) {k23 : Nat → Nat → Nat → Int32 → PH → Option Int32} (hk : ∀ (a1 : Nat) (a2 : Nat) (a3 : Nat) (i4 : Int32) (hh : PH) (x' kc' ks' : Nat), kc' ≤ kc + 1 → ks' ≤ ks + 6 → k23 a1 a2 a3 i4 hh = some 1 → Go l E m_Law_law room_1 (KI (KLw E)) kc' ks' hh x' 23 [(0, .retAddr 1), (1, .ref a1), (2, .ref a2), (3, .ref a3), (4, .int i4)] []) (a1 : Nat) (a2 : Nat) (a3 : Nat) (i4 : Int32) (h : PH) (hf : b_Law_law_938 F (eL E) (eX E) k23 a1 a2 a3 i4 h = some 1) : Go l E m_Law_law room_1 (KI (KLw E)) kc ks h x 938 [(0, .retAddr 1), (1, .ref a1), (2, .ref a2), (3, .ref a3), (4, .int i4)] [] := by
  unfold b_Law_law_938 at hf
  refine go_aload_n 1 d_Law_law_938 rfl ?_
  obtain ⟨_, e1, hf⟩ := bnd_x hf
  obtain ⟨x2, h3, e_x2, hf⟩ := bnd2_x hf
  refine go_callV_I (As := []) (st := []) (c_Np_hintPlace (d := 200) (by omega) e_x2) lk_Law_131 rfl rfl e1 (by decide) rfl ⟨by decide, by decide⟩ (Nat.le_of_ble_eq_true rfl) ⟨by show _ ≤ 601024; omega, by show _ ≤ 7293034; omega⟩ d_Law_law_939 ?_
  refine go_aload_n 2 d_Law_law_942 rfl ?_
  obtain ⟨_, e4, hf⟩ := bnd_x hf
  obtain ⟨x5, h6, e_x5, hf⟩ := bnd2_x hf
  refine go_callV_I (As := []) (st := [.int x2]) (c_Mo_hintPlace (d := 200) (by omega) e_x5) lk_Law_134 rfl rfl e4 (by decide) rfl ⟨by decide, by decide⟩ (Nat.le_of_ble_eq_true rfl) ⟨by show _ ≤ 601024; omega, by show _ ≤ 7293034; omega⟩ d_Law_law_943 ?_
  refine go_icmp_eq 1454 d_Law_law_946 (by decide) (fun q7 => ?_) (fun q7 => ?_)
  · rw [if_pos q7] at hf
    refine go_iinc (lv' := [(4, .int (i4 + (4 : Int32))), (0, .retAddr 1), (1, .ref a1), (2, .ref a2), (3, .ref a3)]) 4 (i4 + (4 : Int32)) d_Law_law_1454 rfl rfl rfl (by decide) ?_
    refine go_goto 23 d_Law_law_1457 (by decide) ?_
    refine go_sub (lv' := [(0, .retAddr 1), (1, .ref a1), (2, .ref a2), (3, .ref a3), (4, .int (i4 + (4 : Int32)))]) [1, 2, 3, 4, 0] rfl ?_
    exact hk a1 a2 a3 (i4 + (4 : Int32)) h6 _ _ _ (by omega) (by omega) hf
  · rw [if_neg q7] at hf
    refine go_iconst (0 : Int32) d_Law_law_949 (by decide) ?_
    exact absurd (Option.some.inj hf) (by decide)
def b_Law_law_951 (F L : Nat) (xs : Nat → Int32) (k23 : Nat → Nat → Nat → Int32 → PH → Option Int32) (a1 : Nat) (a2 : Nat) (a3 : Nat) (i4 : Int32) (h : PH) : Option Int32 :=
  bnd (cK h a1 9) fun _ => bnd (f_Np_logged a1 h) fun x2 => bnd (cK h a2 10) fun _ => bnd2 (f_Mo_logged a2 h) fun x4 h5 => (if x2 = x4 then k23 a1 a2 a3 (i4 + (4 : Int32)) h5 else some (0 : Int32))
theorem gl_951 {l : Launch} {E : ET} (hl : l.stackTraces = false) {F kc ks x : Nat} (hc : kc + 1 ≤ 601000 ∧ ks + 6 ≤ 7290000) {k23 : Nat → Nat → Nat → Int32 → PH → Option Int32} (hk : ∀ (a1 : Nat) (a2 : Nat) (a3 : Nat) (i4 : Int32) (hh : PH) (x' kc' ks' : Nat), kc' ≤ kc + 1 → ks' ≤ ks + 6 → k23 a1 a2 a3 i4 hh = some 1 → Go l E m_Law_law room_1 (KI (KLw E)) kc' ks' hh x' 23 [(0, .retAddr 1), (1, .ref a1), (2, .ref a2), (3, .ref a3), (4, .int i4)] []) (a1 : Nat) (a2 : Nat) (a3 : Nat) (i4 : Int32) (h : PH) (hf : b_Law_law_951 F (eL E) (eX E) k23 a1 a2 a3 i4 h = some 1) : Go l E m_Law_law room_1 (KI (KLw E)) kc ks h x 951 [(0, .retAddr 1), (1, .ref a1), (2, .ref a2), (3, .ref a3), (4, .int i4)] [] := by
  unfold b_Law_law_951 at hf
  refine go_aload_n 1 d_Law_law_951 rfl ?_
  obtain ⟨_, e1, hf⟩ := bnd_x hf
  obtain ⟨x2, e_x2, hf⟩ := bnd_x hf
  refine go_callV_I (As := []) (st := []) (c_Np_logged (d := 200) (by omega) e_x2) lk_Law_135 rfl rfl e1 (by decide) rfl ⟨by decide, by decide⟩ (Nat.le_of_ble_eq_true rfl) ⟨by show _ ≤ 601024; omega, by show _ ≤ 7293034; omega⟩ d_Law_law_952 ?_
  refine go_aload_n 2 d_Law_law_955 rfl ?_
  obtain ⟨_, e3, hf⟩ := bnd_x hf
  obtain ⟨x4, h5, e_x4, hf⟩ := bnd2_x hf
  refine go_callV_I (As := []) (st := [.int x2]) (c_Mo_logged (d := 200) (by omega) e_x4) lk_Law_138 rfl rfl e3 (by decide) rfl ⟨by decide, by decide⟩ (Nat.le_of_ble_eq_true rfl) ⟨by show _ ≤ 601024; omega, by show _ ≤ 7293034; omega⟩ d_Law_law_956 ?_
  refine go_icmp_eq 1454 d_Law_law_959 (by decide) (fun q6 => ?_) (fun q6 => ?_)
  · rw [if_pos q6] at hf
    refine go_iinc (lv' := [(4, .int (i4 + (4 : Int32))), (0, .retAddr 1), (1, .ref a1), (2, .ref a2), (3, .ref a3)]) 4 (i4 + (4 : Int32)) d_Law_law_1454 rfl rfl rfl (by decide) ?_
    refine go_goto 23 d_Law_law_1457 (by decide) ?_
    refine go_sub (lv' := [(0, .retAddr 1), (1, .ref a1), (2, .ref a2), (3, .ref a3), (4, .int (i4 + (4 : Int32)))]) [1, 2, 3, 4, 0] rfl ?_
    exact hk a1 a2 a3 (i4 + (4 : Int32)) h5 _ _ _ (by omega) (by omega) hf
  · rw [if_neg q6] at hf
    refine go_iconst (0 : Int32) d_Law_law_962 (by decide) ?_
    exact absurd (Option.some.inj hf) (by decide)
def b_Law_law_964 (F L : Nat) (xs : Nat → Int32) (k23 : Nat → Nat → Nat → Int32 → PH → Option Int32) (a1 : Nat) (a2 : Nat) (a3 : Nat) (i4 : Int32) (h : PH) : Option Int32 :=
  bnd (xI L xs (i4 + (1 : Int32))) fun x1 => bnd (xI L xs (i4 + (2 : Int32))) fun x2 => bnd2 (f_Law_step a1 x1 x2 a3 h) fun x3 h4 => bnd (xI L xs (i4 + (1 : Int32))) fun x5 => bnd (xI L xs (i4 + (2 : Int32))) fun x6 => bnd (cK h4 a2 10) fun _ => bnd2 (f_Mo_step a2 x5 x6 h4) fun x8 h9 => bnd (cK h9 a2 10) fun _ => bnd (f_Mo_thrown a2 h9) fun x11 => (if x11 = x3 then (if x3 = (0 : Int32) then bnd (aL h9 a3 (0 : Int32)) fun x12 => (if (lg_cmp x12 (x8.toInt64)) = (0 : Int32) then k23 a1 a2 a3 (i4 + (4 : Int32)) h9 else some (0 : Int32)) else k23 a1 a2 a3 (i4 + (4 : Int32)) h9) else some (0 : Int32))
theorem gl_964 {l : Launch} {E : ET} (hl : l.stackTraces = false) {F kc ks x : Nat} (hc : kc + 1 ≤ 601000 ∧ ks + 6 ≤ 7290000) {k23 : Nat → Nat → Nat → Int32 → PH → Option Int32} (hk : ∀ (a1 : Nat) (a2 : Nat) (a3 : Nat) (i4 : Int32) (hh : PH) (x' kc' ks' : Nat), kc' ≤ kc + 1 → ks' ≤ ks + 6 → k23 a1 a2 a3 i4 hh = some 1 → Go l E m_Law_law room_1 (KI (KLw E)) kc' ks' hh x' 23 [(0, .retAddr 1), (1, .ref a1), (2, .ref a2), (3, .ref a3), (4, .int i4)] []) (a1 : Nat) (a2 : Nat) (a3 : Nat) (i4 : Int32) (h : PH) (hf : b_Law_law_964 F (eL E) (eX E) k23 a1 a2 a3 i4 h = some 1) : Go l E m_Law_law room_1 (KI (KLw E)) kc ks h x 964 [(0, .retAddr 1), (1, .ref a1), (2, .ref a2), (3, .ref a3), (4, .int i4)] [] := by
  unfold b_Law_law_964 at hf
  refine go_aload_n 1 d_Law_law_964 rfl ?_
  refine go_aloadS_n 0 d_Law_law_965 rfl ?_
  refine go_iload 4 d_Law_law_966 rfl ?_
  refine go_iconst (1 : Int32) d_Law_law_968 (by decide) ?_
  refine go_iadd d_Law_law_969 ?_
  obtain ⟨x1, e_x1, hf⟩ := bnd_x hf
  obtain ⟨g_x1, q_x1⟩ := xI_x e_x1
  refine go_sload d_Law_law_970 g_x1 ?_
  rw [← q_x1]
  refine go_aloadS_n 0 d_Law_law_971 rfl ?_
  refine go_iload 4 d_Law_law_972 rfl ?_
  refine go_iconst (2 : Int32) d_Law_law_974 (by decide) ?_
  refine go_iadd d_Law_law_975 ?_
  obtain ⟨x2, e_x2, hf⟩ := bnd_x hf
  obtain ⟨g_x2, q_x2⟩ := xI_x e_x2
  refine go_sload d_Law_law_976 g_x2 ?_
  rw [← q_x2]
  refine go_aload_n 3 d_Law_law_977 rfl ?_
  obtain ⟨x3, h4, e_x3, hf⟩ := bnd2_x hf
  refine go_callW (As := [.ref a1, .int x1, .int x2, .ref a3]) (st := []) (c_Law_step hl (d := 200) (by omega) e_x3) lk_Law_139 rfl rfl ⟨by decide, by decide⟩ (Nat.le_of_ble_eq_true rfl) ⟨by show _ ≤ 601024; omega, by show _ ≤ 7293034; omega⟩ d_Law_law_978 (fun x => ?_)
  refine go_istore (lv' := [(5, .int x3), (0, .retAddr 1), (1, .ref a1), (2, .ref a2), (3, .ref a3), (4, .int i4)]) d_Law_law_981 rfl (by decide) ?_
  refine go_aload_n 3 d_Law_law_983 rfl ?_
  refine go_aloadS_n 1 d_Law_law_984 rfl ?_
  refine go_iload 5 d_Law_law_985 rfl ?_
  refine go_iconst (1 : Int32) d_Law_law_987 (by decide) ?_
  refine go_iadd d_Law_law_988 ?_
  obtain ⟨x5, e_x5, hf⟩ := bnd_x hf
  obtain ⟨g_x5, q_x5⟩ := xI_x e_x5
  refine go_sload d_Law_law_989 g_x5 ?_
  rw [← q_x5]
  refine go_aloadS_n 1 d_Law_law_990 rfl ?_
  refine go_iload 5 d_Law_law_991 rfl ?_
  refine go_iconst (2 : Int32) d_Law_law_993 (by decide) ?_
  refine go_iadd d_Law_law_994 ?_
  obtain ⟨x6, e_x6, hf⟩ := bnd_x hf
  obtain ⟨g_x6, q_x6⟩ := xI_x e_x6
  refine go_sload d_Law_law_995 g_x6 ?_
  rw [← q_x6]
  obtain ⟨_, e7, hf⟩ := bnd_x hf
  obtain ⟨x8, h9, e_x8, hf⟩ := bnd2_x hf
  refine go_callV_I (As := [.int x5, .int x6]) (st := []) (c_Mo_step (d := 200) (by omega) e_x8) lk_Law_141 rfl rfl e7 (by decide) rfl ⟨by decide, by decide⟩ (Nat.le_of_ble_eq_true rfl) ⟨by show _ ≤ 601024; omega, by show _ ≤ 7293034; omega⟩ d_Law_law_996 ?_
  refine go_istore (lv' := [(6, .int x8), (5, .int x3), (0, .retAddr 1), (1, .ref a1), (2, .ref a2), (3, .ref a3), (4, .int i4)]) d_Law_law_999 rfl (by decide) ?_
  refine go_aload_n 4 d_Law_law_1001 rfl ?_
  obtain ⟨_, e10, hf⟩ := bnd_x hf
  obtain ⟨x11, e_x11, hf⟩ := bnd_x hf
  refine go_callV_I (As := []) (st := []) (c_Mo_thrown (d := 200) (by omega) e_x11) lk_Law_88 rfl rfl e10 (by decide) rfl ⟨by decide, by decide⟩ (Nat.le_of_ble_eq_true rfl) ⟨by show _ ≤ 601024; omega, by show _ ≤ 7293034; omega⟩ d_Law_law_1002 ?_
  refine go_iload 1 d_Law_law_1005 rfl ?_
  refine go_icmp_eq 1012 d_Law_law_1007 (by decide) (fun q15 => ?_) (fun q15 => ?_)
  · rw [if_pos q15] at hf
    refine go_iload 1 d_Law_law_1012 rfl ?_
    refine go_if_ne 1029 d_Law_law_1014 (by decide) (fun q14 => ?_) (fun q14 => ?_)
    · rw [if_neg q14] at hf
      refine go_goto 1454 d_Law_law_1029 (by decide) ?_
      refine go_iinc (lv' := [(4, .int (i4 + (4 : Int32))), (6, .int x8), (5, .int x3), (0, .retAddr 1), (1, .ref a1), (2, .ref a2), (3, .ref a3)]) 6 (i4 + (4 : Int32)) d_Law_law_1454 rfl rfl rfl (by decide) ?_
      refine go_goto 23 d_Law_law_1457 (by decide) ?_
      refine go_sub (lv' := [(0, .retAddr 1), (1, .ref a1), (2, .ref a2), (3, .ref a3), (4, .int (i4 + (4 : Int32)))]) [3, 4, 5, 6, 0] rfl ?_
      exact hk a1 a2 a3 (i4 + (4 : Int32)) h9 _ _ _ (by omega) (by omega) hf
    · rw [if_pos q14] at hf
      refine go_aload_n 5 d_Law_law_1017 rfl ?_
      refine go_iconst (0 : Int32) d_Law_law_1018 (by decide) ?_
      obtain ⟨x12, e_x12, hf⟩ := bnd_x hf
      refine go_laload d_Law_law_1019 e_x12 ?_
      refine go_iload 0 d_Law_law_1020 rfl ?_
      refine go_i2l d_Law_law_1022 ?_
      refine go_lcmp d_Law_law_1023 ?_
      refine go_if_eq 1029 d_Law_law_1024 (by decide) (fun q13 => ?_) (fun q13 => ?_)
      · rw [if_pos q13] at hf
        refine go_goto 1454 d_Law_law_1029 (by decide) ?_
        refine go_iinc (lv' := [(4, .int (i4 + (4 : Int32))), (6, .int x8), (5, .int x3), (0, .retAddr 1), (1, .ref a1), (2, .ref a2), (3, .ref a3)]) 6 (i4 + (4 : Int32)) d_Law_law_1454 rfl rfl rfl (by decide) ?_
        refine go_goto 23 d_Law_law_1457 (by decide) ?_
        refine go_sub (lv' := [(0, .retAddr 1), (1, .ref a1), (2, .ref a2), (3, .ref a3), (4, .int (i4 + (4 : Int32)))]) [3, 4, 5, 6, 0] rfl ?_
        exact hk a1 a2 a3 (i4 + (4 : Int32)) h9 _ _ _ (by omega) (by omega) hf
      · rw [if_neg q13] at hf
        refine go_iconst (0 : Int32) d_Law_law_1027 (by decide) ?_
        exact absurd (Option.some.inj hf) (by decide)
  · rw [if_neg q15] at hf
    refine go_iconst (0 : Int32) d_Law_law_1010 (by decide) ?_
    exact absurd (Option.some.inj hf) (by decide)
def b_Law_law_1032 (F L : Nat) (xs : Nat → Int32) (k23 : Nat → Nat → Nat → Int32 → PH → Option Int32) (a1 : Nat) (a2 : Nat) (a3 : Nat) (i4 : Int32) (h : PH) : Option Int32 :=
  bnd (xI L xs (i4 + (1 : Int32))) fun x1 => bnd2 (f_Law_needs F a1 x1 a3 h) fun x2 h3 => bnd (xI L xs (i4 + (1 : Int32))) fun x4 => bnd (cK h3 a2 10) fun _ => bnd2 (f_Mo_needs F a2 x4 h3) fun x6 h7 => bnd (cK h7 a2 10) fun _ => bnd (f_Mo_thrown a2 h7) fun x9 => (if x9 = x2 then (if x2 = (0 : Int32) then bnd (aL h7 a3 (0 : Int32)) fun x10 => (if (lg_cmp x10 (x6.toInt64)) = (0 : Int32) then k23 a1 a2 a3 (i4 + (4 : Int32)) h7 else some (0 : Int32)) else k23 a1 a2 a3 (i4 + (4 : Int32)) h7) else some (0 : Int32))
theorem gl_1032 {l : Launch} {E : ET} (hl : l.stackTraces = false) {F kc ks x : Nat} (hc : kc + 1 ≤ 601000 ∧ ks + 6 ≤ 7290000) {k23 : Nat → Nat → Nat → Int32 → PH → Option Int32} (hk : ∀ (a1 : Nat) (a2 : Nat) (a3 : Nat) (i4 : Int32) (hh : PH) (x' kc' ks' : Nat), kc' ≤ kc + 1 → ks' ≤ ks + 6 → k23 a1 a2 a3 i4 hh = some 1 → Go l E m_Law_law room_1 (KI (KLw E)) kc' ks' hh x' 23 [(0, .retAddr 1), (1, .ref a1), (2, .ref a2), (3, .ref a3), (4, .int i4)] []) (a1 : Nat) (a2 : Nat) (a3 : Nat) (i4 : Int32) (h : PH) (hf : b_Law_law_1032 F (eL E) (eX E) k23 a1 a2 a3 i4 h = some 1) : Go l E m_Law_law room_1 (KI (KLw E)) kc ks h x 1032 [(0, .retAddr 1), (1, .ref a1), (2, .ref a2), (3, .ref a3), (4, .int i4)] [] := by
  unfold b_Law_law_1032 at hf
  refine go_aload_n 1 d_Law_law_1032 rfl ?_
  refine go_aloadS_n 0 d_Law_law_1033 rfl ?_
  refine go_iload 4 d_Law_law_1034 rfl ?_
  refine go_iconst (1 : Int32) d_Law_law_1036 (by decide) ?_
  refine go_iadd d_Law_law_1037 ?_
  obtain ⟨x1, e_x1, hf⟩ := bnd_x hf
  obtain ⟨g_x1, q_x1⟩ := xI_x e_x1
  refine go_sload d_Law_law_1038 g_x1 ?_
  rw [← q_x1]
  refine go_aload_n 3 d_Law_law_1039 rfl ?_
  obtain ⟨x2, h3, e_x2, hf⟩ := bnd2_x hf
  refine go_callW (As := [.ref a1, .int x1, .ref a3]) (st := []) (c_Law_needs hl (d := 200) (by omega) e_x2) lk_Law_142 rfl rfl ⟨by decide, by decide⟩ (Nat.le_of_ble_eq_true rfl) ⟨by show _ ≤ 601024; omega, by show _ ≤ 7293034; omega⟩ d_Law_law_1040 (fun x => ?_)
  refine go_istore (lv' := [(5, .int x2), (0, .retAddr 1), (1, .ref a1), (2, .ref a2), (3, .ref a3), (4, .int i4)]) d_Law_law_1043 rfl (by decide) ?_
  refine go_aload_n 3 d_Law_law_1045 rfl ?_
  refine go_aloadS_n 1 d_Law_law_1046 rfl ?_
  refine go_iload 5 d_Law_law_1047 rfl ?_
  refine go_iconst (1 : Int32) d_Law_law_1049 (by decide) ?_
  refine go_iadd d_Law_law_1050 ?_
  obtain ⟨x4, e_x4, hf⟩ := bnd_x hf
  obtain ⟨g_x4, q_x4⟩ := xI_x e_x4
  refine go_sload d_Law_law_1051 g_x4 ?_
  rw [← q_x4]
  obtain ⟨_, e5, hf⟩ := bnd_x hf
  obtain ⟨x6, h7, e_x6, hf⟩ := bnd2_x hf
  refine go_callV_I (As := [.int x4]) (st := []) (c_Mo_needs (d := 200) (by omega) e_x6) lk_Law_144 rfl rfl e5 (by decide) rfl ⟨by decide, by decide⟩ (Nat.le_of_ble_eq_true rfl) ⟨by show _ ≤ 601024; omega, by show _ ≤ 7293034; omega⟩ d_Law_law_1052 ?_
  refine go_istore (lv' := [(6, .int x6), (5, .int x2), (0, .retAddr 1), (1, .ref a1), (2, .ref a2), (3, .ref a3), (4, .int i4)]) d_Law_law_1055 rfl (by decide) ?_
  refine go_aload_n 4 d_Law_law_1057 rfl ?_
  obtain ⟨_, e8, hf⟩ := bnd_x hf
  obtain ⟨x9, e_x9, hf⟩ := bnd_x hf
  refine go_callV_I (As := []) (st := []) (c_Mo_thrown (d := 200) (by omega) e_x9) lk_Law_88 rfl rfl e8 (by decide) rfl ⟨by decide, by decide⟩ (Nat.le_of_ble_eq_true rfl) ⟨by show _ ≤ 601024; omega, by show _ ≤ 7293034; omega⟩ d_Law_law_1058 ?_
  refine go_iload 1 d_Law_law_1061 rfl ?_
  refine go_icmp_eq 1068 d_Law_law_1063 (by decide) (fun q13 => ?_) (fun q13 => ?_)
  · rw [if_pos q13] at hf
    refine go_iload 1 d_Law_law_1068 rfl ?_
    refine go_if_ne 1085 d_Law_law_1070 (by decide) (fun q12 => ?_) (fun q12 => ?_)
    · rw [if_neg q12] at hf
      refine go_goto 1454 d_Law_law_1085 (by decide) ?_
      refine go_iinc (lv' := [(4, .int (i4 + (4 : Int32))), (6, .int x6), (5, .int x2), (0, .retAddr 1), (1, .ref a1), (2, .ref a2), (3, .ref a3)]) 6 (i4 + (4 : Int32)) d_Law_law_1454 rfl rfl rfl (by decide) ?_
      refine go_goto 23 d_Law_law_1457 (by decide) ?_
      refine go_sub (lv' := [(0, .retAddr 1), (1, .ref a1), (2, .ref a2), (3, .ref a3), (4, .int (i4 + (4 : Int32)))]) [3, 4, 5, 6, 0] rfl ?_
      exact hk a1 a2 a3 (i4 + (4 : Int32)) h7 _ _ _ (by omega) (by omega) hf
    · rw [if_pos q12] at hf
      refine go_aload_n 5 d_Law_law_1073 rfl ?_
      refine go_iconst (0 : Int32) d_Law_law_1074 (by decide) ?_
      obtain ⟨x10, e_x10, hf⟩ := bnd_x hf
      refine go_laload d_Law_law_1075 e_x10 ?_
      refine go_iload 0 d_Law_law_1076 rfl ?_
      refine go_i2l d_Law_law_1078 ?_
      refine go_lcmp d_Law_law_1079 ?_
      refine go_if_eq 1085 d_Law_law_1080 (by decide) (fun q11 => ?_) (fun q11 => ?_)
      · rw [if_pos q11] at hf
        refine go_goto 1454 d_Law_law_1085 (by decide) ?_
        refine go_iinc (lv' := [(4, .int (i4 + (4 : Int32))), (6, .int x6), (5, .int x2), (0, .retAddr 1), (1, .ref a1), (2, .ref a2), (3, .ref a3)]) 6 (i4 + (4 : Int32)) d_Law_law_1454 rfl rfl rfl (by decide) ?_
        refine go_goto 23 d_Law_law_1457 (by decide) ?_
        refine go_sub (lv' := [(0, .retAddr 1), (1, .ref a1), (2, .ref a2), (3, .ref a3), (4, .int (i4 + (4 : Int32)))]) [3, 4, 5, 6, 0] rfl ?_
        exact hk a1 a2 a3 (i4 + (4 : Int32)) h7 _ _ _ (by omega) (by omega) hf
      · rw [if_neg q11] at hf
        refine go_iconst (0 : Int32) d_Law_law_1083 (by decide) ?_
        exact absurd (Option.some.inj hf) (by decide)
  · rw [if_neg q13] at hf
    refine go_iconst (0 : Int32) d_Law_law_1066 (by decide) ?_
    exact absurd (Option.some.inj hf) (by decide)
def b_Law_law_1088 (F L : Nat) (xs : Nat → Int32) (k23 : Nat → Nat → Nat → Int32 → PH → Option Int32) (a1 : Nat) (a2 : Nat) (a3 : Nat) (i4 : Int32) (h : PH) : Option Int32 :=
  bnd (xI L xs (i4 + (1 : Int32))) fun x1 => bnd2 (f_Law_solutions F a1 x1 a3 h) fun x2 h3 => bnd (xI L xs (i4 + (1 : Int32))) fun x4 => bnd (cK h3 a2 10) fun _ => bnd2 (f_Mo_solutions F a2 x4 h3) fun x6 h7 => bnd (cK h7 a2 10) fun _ => bnd (f_Mo_thrown a2 h7) fun x9 => (if x9 = x2 then (if x2 = (0 : Int32) then bnd (aL h7 a3 (0 : Int32)) fun x10 => (if (lg_cmp x10 (x6.toInt64)) = (0 : Int32) then k23 a1 a2 a3 (i4 + (4 : Int32)) h7 else some (0 : Int32)) else k23 a1 a2 a3 (i4 + (4 : Int32)) h7) else some (0 : Int32))
theorem gl_1088 {l : Launch} {E : ET} (hl : l.stackTraces = false) {F kc ks x : Nat} (hc : kc + 1 ≤ 601000 ∧ ks + 6 ≤ 7290000) {k23 : Nat → Nat → Nat → Int32 → PH → Option Int32} (hk : ∀ (a1 : Nat) (a2 : Nat) (a3 : Nat) (i4 : Int32) (hh : PH) (x' kc' ks' : Nat), kc' ≤ kc + 1 → ks' ≤ ks + 6 → k23 a1 a2 a3 i4 hh = some 1 → Go l E m_Law_law room_1 (KI (KLw E)) kc' ks' hh x' 23 [(0, .retAddr 1), (1, .ref a1), (2, .ref a2), (3, .ref a3), (4, .int i4)] []) (a1 : Nat) (a2 : Nat) (a3 : Nat) (i4 : Int32) (h : PH) (hf : b_Law_law_1088 F (eL E) (eX E) k23 a1 a2 a3 i4 h = some 1) : Go l E m_Law_law room_1 (KI (KLw E)) kc ks h x 1088 [(0, .retAddr 1), (1, .ref a1), (2, .ref a2), (3, .ref a3), (4, .int i4)] [] := by
  unfold b_Law_law_1088 at hf
  refine go_aload_n 1 d_Law_law_1088 rfl ?_
  refine go_aloadS_n 0 d_Law_law_1089 rfl ?_
  refine go_iload 4 d_Law_law_1090 rfl ?_
  refine go_iconst (1 : Int32) d_Law_law_1092 (by decide) ?_
  refine go_iadd d_Law_law_1093 ?_
  obtain ⟨x1, e_x1, hf⟩ := bnd_x hf
  obtain ⟨g_x1, q_x1⟩ := xI_x e_x1
  refine go_sload d_Law_law_1094 g_x1 ?_
  rw [← q_x1]
  refine go_aload_n 3 d_Law_law_1095 rfl ?_
  obtain ⟨x2, h3, e_x2, hf⟩ := bnd2_x hf
  refine go_callW (As := [.ref a1, .int x1, .ref a3]) (st := []) (c_Law_solutions hl (d := 200) (by omega) e_x2) lk_Law_145 rfl rfl ⟨by decide, by decide⟩ (Nat.le_of_ble_eq_true rfl) ⟨by show _ ≤ 601024; omega, by show _ ≤ 7293034; omega⟩ d_Law_law_1096 (fun x => ?_)
  refine go_istore (lv' := [(5, .int x2), (0, .retAddr 1), (1, .ref a1), (2, .ref a2), (3, .ref a3), (4, .int i4)]) d_Law_law_1099 rfl (by decide) ?_
  refine go_aload_n 3 d_Law_law_1101 rfl ?_
  refine go_aloadS_n 1 d_Law_law_1102 rfl ?_
  refine go_iload 5 d_Law_law_1103 rfl ?_
  refine go_iconst (1 : Int32) d_Law_law_1105 (by decide) ?_
  refine go_iadd d_Law_law_1106 ?_
  obtain ⟨x4, e_x4, hf⟩ := bnd_x hf
  obtain ⟨g_x4, q_x4⟩ := xI_x e_x4
  refine go_sload d_Law_law_1107 g_x4 ?_
  rw [← q_x4]
  obtain ⟨_, e5, hf⟩ := bnd_x hf
  obtain ⟨x6, h7, e_x6, hf⟩ := bnd2_x hf
  refine go_callV_I (As := [.int x4]) (st := []) (c_Mo_solutions (d := 200) (by omega) e_x6) lk_Law_147 rfl rfl e5 (by decide) rfl ⟨by decide, by decide⟩ (Nat.le_of_ble_eq_true rfl) ⟨by show _ ≤ 601024; omega, by show _ ≤ 7293034; omega⟩ d_Law_law_1108 ?_
  refine go_istore (lv' := [(6, .int x6), (5, .int x2), (0, .retAddr 1), (1, .ref a1), (2, .ref a2), (3, .ref a3), (4, .int i4)]) d_Law_law_1111 rfl (by decide) ?_
  refine go_aload_n 4 d_Law_law_1113 rfl ?_
  obtain ⟨_, e8, hf⟩ := bnd_x hf
  obtain ⟨x9, e_x9, hf⟩ := bnd_x hf
  refine go_callV_I (As := []) (st := []) (c_Mo_thrown (d := 200) (by omega) e_x9) lk_Law_88 rfl rfl e8 (by decide) rfl ⟨by decide, by decide⟩ (Nat.le_of_ble_eq_true rfl) ⟨by show _ ≤ 601024; omega, by show _ ≤ 7293034; omega⟩ d_Law_law_1114 ?_
  refine go_iload 1 d_Law_law_1117 rfl ?_
  refine go_icmp_eq 1124 d_Law_law_1119 (by decide) (fun q13 => ?_) (fun q13 => ?_)
  · rw [if_pos q13] at hf
    refine go_iload 1 d_Law_law_1124 rfl ?_
    refine go_if_ne 1141 d_Law_law_1126 (by decide) (fun q12 => ?_) (fun q12 => ?_)
    · rw [if_neg q12] at hf
      refine go_goto 1454 d_Law_law_1141 (by decide) ?_
      refine go_iinc (lv' := [(4, .int (i4 + (4 : Int32))), (6, .int x6), (5, .int x2), (0, .retAddr 1), (1, .ref a1), (2, .ref a2), (3, .ref a3)]) 6 (i4 + (4 : Int32)) d_Law_law_1454 rfl rfl rfl (by decide) ?_
      refine go_goto 23 d_Law_law_1457 (by decide) ?_
      refine go_sub (lv' := [(0, .retAddr 1), (1, .ref a1), (2, .ref a2), (3, .ref a3), (4, .int (i4 + (4 : Int32)))]) [3, 4, 5, 6, 0] rfl ?_
      exact hk a1 a2 a3 (i4 + (4 : Int32)) h7 _ _ _ (by omega) (by omega) hf
    · rw [if_pos q12] at hf
      refine go_aload_n 5 d_Law_law_1129 rfl ?_
      refine go_iconst (0 : Int32) d_Law_law_1130 (by decide) ?_
      obtain ⟨x10, e_x10, hf⟩ := bnd_x hf
      refine go_laload d_Law_law_1131 e_x10 ?_
      refine go_iload 0 d_Law_law_1132 rfl ?_
      refine go_i2l d_Law_law_1134 ?_
      refine go_lcmp d_Law_law_1135 ?_
      refine go_if_eq 1141 d_Law_law_1136 (by decide) (fun q11 => ?_) (fun q11 => ?_)
      · rw [if_pos q11] at hf
        refine go_goto 1454 d_Law_law_1141 (by decide) ?_
        refine go_iinc (lv' := [(4, .int (i4 + (4 : Int32))), (6, .int x6), (5, .int x2), (0, .retAddr 1), (1, .ref a1), (2, .ref a2), (3, .ref a3)]) 6 (i4 + (4 : Int32)) d_Law_law_1454 rfl rfl rfl (by decide) ?_
        refine go_goto 23 d_Law_law_1457 (by decide) ?_
        refine go_sub (lv' := [(0, .retAddr 1), (1, .ref a1), (2, .ref a2), (3, .ref a3), (4, .int (i4 + (4 : Int32)))]) [3, 4, 5, 6, 0] rfl ?_
        exact hk a1 a2 a3 (i4 + (4 : Int32)) h7 _ _ _ (by omega) (by omega) hf
      · rw [if_neg q11] at hf
        refine go_iconst (0 : Int32) d_Law_law_1139 (by decide) ?_
        exact absurd (Option.some.inj hf) (by decide)
  · rw [if_neg q13] at hf
    refine go_iconst (0 : Int32) d_Law_law_1122 (by decide) ?_
    exact absurd (Option.some.inj hf) (by decide)
def b_Law_law_1144 (F L : Nat) (xs : Nat → Int32) (k23 : Nat → Nat → Nat → Int32 → PH → Option Int32) (a1 : Nat) (a2 : Nat) (a3 : Nat) (i4 : Int32) (h : PH) : Option Int32 :=
  bnd (cK h a1 9) fun _ => bnd2 (f_Np_guesses F a1 h) fun x2 h3 => bnd (cK h3 a2 10) fun _ => bnd2 (f_Mo_guesses F a2 h3) fun x5 h6 => (if x2 = x5 then k23 a1 a2 a3 (i4 + (4 : Int32)) h6 else some (0 : Int32))
theorem gl_1144 {l : Launch} {E : ET} (hl : l.stackTraces = false) {F kc ks x : Nat} (hc : kc + 1 ≤ 601000 ∧ ks + 6 ≤ 7290000) {k23 : Nat → Nat → Nat → Int32 → PH → Option Int32} (hk : ∀ (a1 : Nat) (a2 : Nat) (a3 : Nat) (i4 : Int32) (hh : PH) (x' kc' ks' : Nat), kc' ≤ kc + 1 → ks' ≤ ks + 6 → k23 a1 a2 a3 i4 hh = some 1 → Go l E m_Law_law room_1 (KI (KLw E)) kc' ks' hh x' 23 [(0, .retAddr 1), (1, .ref a1), (2, .ref a2), (3, .ref a3), (4, .int i4)] []) (a1 : Nat) (a2 : Nat) (a3 : Nat) (i4 : Int32) (h : PH) (hf : b_Law_law_1144 F (eL E) (eX E) k23 a1 a2 a3 i4 h = some 1) : Go l E m_Law_law room_1 (KI (KLw E)) kc ks h x 1144 [(0, .retAddr 1), (1, .ref a1), (2, .ref a2), (3, .ref a3), (4, .int i4)] [] := by
  unfold b_Law_law_1144 at hf
  refine go_aload_n 1 d_Law_law_1144 rfl ?_
  obtain ⟨_, e1, hf⟩ := bnd_x hf
  obtain ⟨x2, h3, e_x2, hf⟩ := bnd2_x hf
  refine go_callV_I (As := []) (st := []) (c_Np_guesses (d := 200) (by omega) e_x2) lk_Law_148 rfl rfl e1 (by decide) rfl ⟨by decide, by decide⟩ (Nat.le_of_ble_eq_true rfl) ⟨by show _ ≤ 601024; omega, by show _ ≤ 7293034; omega⟩ d_Law_law_1145 ?_
  refine go_aload_n 2 d_Law_law_1148 rfl ?_
  obtain ⟨_, e4, hf⟩ := bnd_x hf
  obtain ⟨x5, h6, e_x5, hf⟩ := bnd2_x hf
  refine go_callV_I (As := []) (st := [.int x2]) (c_Mo_guesses (d := 200) (by omega) e_x5) lk_Law_151 rfl rfl e4 (by decide) rfl ⟨by decide, by decide⟩ (Nat.le_of_ble_eq_true rfl) ⟨by show _ ≤ 601024; omega, by show _ ≤ 7293034; omega⟩ d_Law_law_1149 ?_
  refine go_icmp_eq 1454 d_Law_law_1152 (by decide) (fun q7 => ?_) (fun q7 => ?_)
  · rw [if_pos q7] at hf
    refine go_iinc (lv' := [(4, .int (i4 + (4 : Int32))), (0, .retAddr 1), (1, .ref a1), (2, .ref a2), (3, .ref a3)]) 4 (i4 + (4 : Int32)) d_Law_law_1454 rfl rfl rfl (by decide) ?_
    refine go_goto 23 d_Law_law_1457 (by decide) ?_
    refine go_sub (lv' := [(0, .retAddr 1), (1, .ref a1), (2, .ref a2), (3, .ref a3), (4, .int (i4 + (4 : Int32)))]) [1, 2, 3, 4, 0] rfl ?_
    exact hk a1 a2 a3 (i4 + (4 : Int32)) h6 _ _ _ (by omega) (by omega) hf
  · rw [if_neg q7] at hf
    refine go_iconst (0 : Int32) d_Law_law_1155 (by decide) ?_
    exact absurd (Option.some.inj hf) (by decide)
def b_Law_law_1157 (F L : Nat) (xs : Nat → Int32) (k23 : Nat → Nat → Nat → Int32 → PH → Option Int32) (a1 : Nat) (a2 : Nat) (a3 : Nat) (i4 : Int32) (h : PH) : Option Int32 :=
  bnd (xI L xs (i4 + (1 : Int32))) fun x1 => bnd2 (f_Law_solved F a1 x1 a3 h) fun x2 h3 => bnd (xI L xs (i4 + (1 : Int32))) fun x4 => bnd (cK h3 a2 10) fun _ => bnd2 (f_Mo_solved F a2 x4 h3) fun x6 h7 => bnd (cK h7 a2 10) fun _ => bnd (f_Mo_thrown a2 h7) fun x9 => (if x9 = x2 then (if x2 = (0 : Int32) then bnd (aL h7 a3 (0 : Int32)) fun x10 => (if (lg_cmp x10 (x6.toInt64)) = (0 : Int32) then k23 a1 a2 a3 (i4 + (4 : Int32)) h7 else some (0 : Int32)) else k23 a1 a2 a3 (i4 + (4 : Int32)) h7) else some (0 : Int32))
theorem gl_1157 {l : Launch} {E : ET} (hl : l.stackTraces = false) {F kc ks x : Nat} (hc : kc + 1 ≤ 601000 ∧ ks + 6 ≤ 7290000) {k23 : Nat → Nat → Nat → Int32 → PH → Option Int32} (hk : ∀ (a1 : Nat) (a2 : Nat) (a3 : Nat) (i4 : Int32) (hh : PH) (x' kc' ks' : Nat), kc' ≤ kc + 1 → ks' ≤ ks + 6 → k23 a1 a2 a3 i4 hh = some 1 → Go l E m_Law_law room_1 (KI (KLw E)) kc' ks' hh x' 23 [(0, .retAddr 1), (1, .ref a1), (2, .ref a2), (3, .ref a3), (4, .int i4)] []) (a1 : Nat) (a2 : Nat) (a3 : Nat) (i4 : Int32) (h : PH) (hf : b_Law_law_1157 F (eL E) (eX E) k23 a1 a2 a3 i4 h = some 1) : Go l E m_Law_law room_1 (KI (KLw E)) kc ks h x 1157 [(0, .retAddr 1), (1, .ref a1), (2, .ref a2), (3, .ref a3), (4, .int i4)] [] := by
  unfold b_Law_law_1157 at hf
  refine go_aload_n 1 d_Law_law_1157 rfl ?_
  refine go_aloadS_n 0 d_Law_law_1158 rfl ?_
  refine go_iload 4 d_Law_law_1159 rfl ?_
  refine go_iconst (1 : Int32) d_Law_law_1161 (by decide) ?_
  refine go_iadd d_Law_law_1162 ?_
  obtain ⟨x1, e_x1, hf⟩ := bnd_x hf
  obtain ⟨g_x1, q_x1⟩ := xI_x e_x1
  refine go_sload d_Law_law_1163 g_x1 ?_
  rw [← q_x1]
  refine go_aload_n 3 d_Law_law_1164 rfl ?_
  obtain ⟨x2, h3, e_x2, hf⟩ := bnd2_x hf
  refine go_callW (As := [.ref a1, .int x1, .ref a3]) (st := []) (c_Law_solved hl (d := 200) (by omega) e_x2) lk_Law_152 rfl rfl ⟨by decide, by decide⟩ (Nat.le_of_ble_eq_true rfl) ⟨by show _ ≤ 601024; omega, by show _ ≤ 7293034; omega⟩ d_Law_law_1165 (fun x => ?_)
  refine go_istore (lv' := [(5, .int x2), (0, .retAddr 1), (1, .ref a1), (2, .ref a2), (3, .ref a3), (4, .int i4)]) d_Law_law_1168 rfl (by decide) ?_
  refine go_aload_n 3 d_Law_law_1170 rfl ?_
  refine go_aloadS_n 1 d_Law_law_1171 rfl ?_
  refine go_iload 5 d_Law_law_1172 rfl ?_
  refine go_iconst (1 : Int32) d_Law_law_1174 (by decide) ?_
  refine go_iadd d_Law_law_1175 ?_
  obtain ⟨x4, e_x4, hf⟩ := bnd_x hf
  obtain ⟨g_x4, q_x4⟩ := xI_x e_x4
  refine go_sload d_Law_law_1176 g_x4 ?_
  rw [← q_x4]
  obtain ⟨_, e5, hf⟩ := bnd_x hf
  obtain ⟨x6, h7, e_x6, hf⟩ := bnd2_x hf
  refine go_callV_I (As := [.int x4]) (st := []) (c_Mo_solved (d := 200) (by omega) e_x6) lk_Law_154 rfl rfl e5 (by decide) rfl ⟨by decide, by decide⟩ (Nat.le_of_ble_eq_true rfl) ⟨by show _ ≤ 601024; omega, by show _ ≤ 7293034; omega⟩ d_Law_law_1177 ?_
  refine go_istore (lv' := [(6, .int x6), (5, .int x2), (0, .retAddr 1), (1, .ref a1), (2, .ref a2), (3, .ref a3), (4, .int i4)]) d_Law_law_1180 rfl (by decide) ?_
  refine go_aload_n 4 d_Law_law_1182 rfl ?_
  obtain ⟨_, e8, hf⟩ := bnd_x hf
  obtain ⟨x9, e_x9, hf⟩ := bnd_x hf
  refine go_callV_I (As := []) (st := []) (c_Mo_thrown (d := 200) (by omega) e_x9) lk_Law_88 rfl rfl e8 (by decide) rfl ⟨by decide, by decide⟩ (Nat.le_of_ble_eq_true rfl) ⟨by show _ ≤ 601024; omega, by show _ ≤ 7293034; omega⟩ d_Law_law_1183 ?_
  refine go_iload 1 d_Law_law_1186 rfl ?_
  refine go_icmp_eq 1193 d_Law_law_1188 (by decide) (fun q13 => ?_) (fun q13 => ?_)
  · rw [if_pos q13] at hf
    refine go_iload 1 d_Law_law_1193 rfl ?_
    refine go_if_ne 1210 d_Law_law_1195 (by decide) (fun q12 => ?_) (fun q12 => ?_)
    · rw [if_neg q12] at hf
      refine go_goto 1454 d_Law_law_1210 (by decide) ?_
      refine go_iinc (lv' := [(4, .int (i4 + (4 : Int32))), (6, .int x6), (5, .int x2), (0, .retAddr 1), (1, .ref a1), (2, .ref a2), (3, .ref a3)]) 6 (i4 + (4 : Int32)) d_Law_law_1454 rfl rfl rfl (by decide) ?_
      refine go_goto 23 d_Law_law_1457 (by decide) ?_
      refine go_sub (lv' := [(0, .retAddr 1), (1, .ref a1), (2, .ref a2), (3, .ref a3), (4, .int (i4 + (4 : Int32)))]) [3, 4, 5, 6, 0] rfl ?_
      exact hk a1 a2 a3 (i4 + (4 : Int32)) h7 _ _ _ (by omega) (by omega) hf
    · rw [if_pos q12] at hf
      refine go_aload_n 5 d_Law_law_1198 rfl ?_
      refine go_iconst (0 : Int32) d_Law_law_1199 (by decide) ?_
      obtain ⟨x10, e_x10, hf⟩ := bnd_x hf
      refine go_laload d_Law_law_1200 e_x10 ?_
      refine go_iload 0 d_Law_law_1201 rfl ?_
      refine go_i2l d_Law_law_1203 ?_
      refine go_lcmp d_Law_law_1204 ?_
      refine go_if_eq 1210 d_Law_law_1205 (by decide) (fun q11 => ?_) (fun q11 => ?_)
      · rw [if_pos q11] at hf
        refine go_goto 1454 d_Law_law_1210 (by decide) ?_
        refine go_iinc (lv' := [(4, .int (i4 + (4 : Int32))), (6, .int x6), (5, .int x2), (0, .retAddr 1), (1, .ref a1), (2, .ref a2), (3, .ref a3)]) 6 (i4 + (4 : Int32)) d_Law_law_1454 rfl rfl rfl (by decide) ?_
        refine go_goto 23 d_Law_law_1457 (by decide) ?_
        refine go_sub (lv' := [(0, .retAddr 1), (1, .ref a1), (2, .ref a2), (3, .ref a3), (4, .int (i4 + (4 : Int32)))]) [3, 4, 5, 6, 0] rfl ?_
        exact hk a1 a2 a3 (i4 + (4 : Int32)) h7 _ _ _ (by omega) (by omega) hf
      · rw [if_neg q11] at hf
        refine go_iconst (0 : Int32) d_Law_law_1208 (by decide) ?_
        exact absurd (Option.some.inj hf) (by decide)
  · rw [if_neg q13] at hf
    refine go_iconst (0 : Int32) d_Law_law_1191 (by decide) ?_
    exact absurd (Option.some.inj hf) (by decide)
def b_Law_law_1213 (F L : Nat) (xs : Nat → Int32) (k23 : Nat → Nat → Nat → Int32 → PH → Option Int32) (a1 : Nat) (a2 : Nat) (a3 : Nat) (i4 : Int32) (h : PH) : Option Int32 :=
  bnd (cK h a1 9) fun _ => bnd2 (f_Np_superfluous F a1 h) fun x2 h3 => bnd (cK h3 a2 10) fun _ => bnd2 (f_Mo_superfluous F a2 h3) fun x5 h6 => (if x2 = x5 then k23 a1 a2 a3 (i4 + (4 : Int32)) h6 else some (0 : Int32))
theorem gl_1213 {l : Launch} {E : ET} (hl : l.stackTraces = false) {F kc ks x : Nat} (hc : kc + 1 ≤ 601000 ∧ ks + 6 ≤ 7290000) {k23 : Nat → Nat → Nat → Int32 → PH → Option Int32} (hk : ∀ (a1 : Nat) (a2 : Nat) (a3 : Nat) (i4 : Int32) (hh : PH) (x' kc' ks' : Nat), kc' ≤ kc + 1 → ks' ≤ ks + 6 → k23 a1 a2 a3 i4 hh = some 1 → Go l E m_Law_law room_1 (KI (KLw E)) kc' ks' hh x' 23 [(0, .retAddr 1), (1, .ref a1), (2, .ref a2), (3, .ref a3), (4, .int i4)] []) (a1 : Nat) (a2 : Nat) (a3 : Nat) (i4 : Int32) (h : PH) (hf : b_Law_law_1213 F (eL E) (eX E) k23 a1 a2 a3 i4 h = some 1) : Go l E m_Law_law room_1 (KI (KLw E)) kc ks h x 1213 [(0, .retAddr 1), (1, .ref a1), (2, .ref a2), (3, .ref a3), (4, .int i4)] [] := by
  unfold b_Law_law_1213 at hf
  refine go_aload_n 1 d_Law_law_1213 rfl ?_
  obtain ⟨_, e1, hf⟩ := bnd_x hf
  obtain ⟨x2, h3, e_x2, hf⟩ := bnd2_x hf
  refine go_callV_I (As := []) (st := []) (c_Np_superfluous (d := 200) (by omega) e_x2) lk_Law_155 rfl rfl e1 (by decide) rfl ⟨by decide, by decide⟩ (Nat.le_of_ble_eq_true rfl) ⟨by show _ ≤ 601024; omega, by show _ ≤ 7293034; omega⟩ d_Law_law_1214 ?_
  refine go_aload_n 2 d_Law_law_1217 rfl ?_
  obtain ⟨_, e4, hf⟩ := bnd_x hf
  obtain ⟨x5, h6, e_x5, hf⟩ := bnd2_x hf
  refine go_callV_I (As := []) (st := [.int x2]) (c_Mo_superfluous (d := 200) (by omega) e_x5) lk_Law_158 rfl rfl e4 (by decide) rfl ⟨by decide, by decide⟩ (Nat.le_of_ble_eq_true rfl) ⟨by show _ ≤ 601024; omega, by show _ ≤ 7293034; omega⟩ d_Law_law_1218 ?_
  refine go_icmp_eq 1454 d_Law_law_1221 (by decide) (fun q7 => ?_) (fun q7 => ?_)
  · rw [if_pos q7] at hf
    refine go_iinc (lv' := [(4, .int (i4 + (4 : Int32))), (0, .retAddr 1), (1, .ref a1), (2, .ref a2), (3, .ref a3)]) 4 (i4 + (4 : Int32)) d_Law_law_1454 rfl rfl rfl (by decide) ?_
    refine go_goto 23 d_Law_law_1457 (by decide) ?_
    refine go_sub (lv' := [(0, .retAddr 1), (1, .ref a1), (2, .ref a2), (3, .ref a3), (4, .int (i4 + (4 : Int32)))]) [1, 2, 3, 4, 0] rfl ?_
    exact hk a1 a2 a3 (i4 + (4 : Int32)) h6 _ _ _ (by omega) (by omega) hf
  · rw [if_neg q7] at hf
    refine go_iconst (0 : Int32) d_Law_law_1224 (by decide) ?_
    exact absurd (Option.some.inj hf) (by decide)
def b_Law_law_1226 (F L : Nat) (xs : Nat → Int32) (k23 : Nat → Nat → Nat → Int32 → PH → Option Int32) (a1 : Nat) (a2 : Nat) (a3 : Nat) (i4 : Int32) (h : PH) : Option Int32 :=
  bnd (xI L xs (i4 + (1 : Int32))) fun x1 => bnd (xI L xs (i4 + (2 : Int32))) fun x2 => bnd2 (f_Law_possible F a1 x1 x2 a3 h) fun x3 h4 => bnd (xI L xs (i4 + (1 : Int32))) fun x5 => bnd (xI L xs (i4 + (2 : Int32))) fun x6 => bnd (cK h4 a2 10) fun _ => bnd2 (f_Mo_possible F a2 x5 x6 h4) fun x8 h9 => bnd (cK h9 a2 10) fun _ => bnd (f_Mo_thrown a2 h9) fun x11 => (if x11 = x3 then (if x3 = (0 : Int32) then bnd (aL h9 a3 (0 : Int32)) fun x12 => (if x8 = (0 : Int32) then (if (lg_cmp x12 (0 : Int64)) = (0 : Int32) then k23 a1 a2 a3 (i4 + (4 : Int32)) h9 else some (0 : Int32)) else (if (lg_cmp x12 (1 : Int64)) = (0 : Int32) then k23 a1 a2 a3 (i4 + (4 : Int32)) h9 else some (0 : Int32))) else k23 a1 a2 a3 (i4 + (4 : Int32)) h9) else some (0 : Int32))
theorem gl_1226 {l : Launch} {E : ET} (hl : l.stackTraces = false) {F kc ks x : Nat} (hc : kc + 1 ≤ 601000 ∧ ks + 6 ≤ 7290000) {k23 : Nat → Nat → Nat → Int32 → PH → Option Int32} (hk : ∀ (a1 : Nat) (a2 : Nat) (a3 : Nat) (i4 : Int32) (hh : PH) (x' kc' ks' : Nat), kc' ≤ kc + 1 → ks' ≤ ks + 6 → k23 a1 a2 a3 i4 hh = some 1 → Go l E m_Law_law room_1 (KI (KLw E)) kc' ks' hh x' 23 [(0, .retAddr 1), (1, .ref a1), (2, .ref a2), (3, .ref a3), (4, .int i4)] []) (a1 : Nat) (a2 : Nat) (a3 : Nat) (i4 : Int32) (h : PH) (hf : b_Law_law_1226 F (eL E) (eX E) k23 a1 a2 a3 i4 h = some 1) : Go l E m_Law_law room_1 (KI (KLw E)) kc ks h x 1226 [(0, .retAddr 1), (1, .ref a1), (2, .ref a2), (3, .ref a3), (4, .int i4)] [] := by
  unfold b_Law_law_1226 at hf
  refine go_aload_n 1 d_Law_law_1226 rfl ?_
  refine go_aloadS_n 0 d_Law_law_1227 rfl ?_
  refine go_iload 4 d_Law_law_1228 rfl ?_
  refine go_iconst (1 : Int32) d_Law_law_1230 (by decide) ?_
  refine go_iadd d_Law_law_1231 ?_
  obtain ⟨x1, e_x1, hf⟩ := bnd_x hf
  obtain ⟨g_x1, q_x1⟩ := xI_x e_x1
  refine go_sload d_Law_law_1232 g_x1 ?_
  rw [← q_x1]
  refine go_aloadS_n 0 d_Law_law_1233 rfl ?_
  refine go_iload 4 d_Law_law_1234 rfl ?_
  refine go_iconst (2 : Int32) d_Law_law_1236 (by decide) ?_
  refine go_iadd d_Law_law_1237 ?_
  obtain ⟨x2, e_x2, hf⟩ := bnd_x hf
  obtain ⟨g_x2, q_x2⟩ := xI_x e_x2
  refine go_sload d_Law_law_1238 g_x2 ?_
  rw [← q_x2]
  refine go_aload_n 3 d_Law_law_1239 rfl ?_
  obtain ⟨x3, h4, e_x3, hf⟩ := bnd2_x hf
  refine go_callW (As := [.ref a1, .int x1, .int x2, .ref a3]) (st := []) (c_Law_possible hl (d := 200) (by omega) e_x3) lk_Law_159 rfl rfl ⟨by decide, by decide⟩ (Nat.le_of_ble_eq_true rfl) ⟨by show _ ≤ 601024; omega, by show _ ≤ 7293034; omega⟩ d_Law_law_1240 (fun x => ?_)
  refine go_istore (lv' := [(5, .int x3), (0, .retAddr 1), (1, .ref a1), (2, .ref a2), (3, .ref a3), (4, .int i4)]) d_Law_law_1243 rfl (by decide) ?_
  refine go_aload_n 3 d_Law_law_1245 rfl ?_
  refine go_aloadS_n 1 d_Law_law_1246 rfl ?_
  refine go_iload 5 d_Law_law_1247 rfl ?_
  refine go_iconst (1 : Int32) d_Law_law_1249 (by decide) ?_
  refine go_iadd d_Law_law_1250 ?_
  obtain ⟨x5, e_x5, hf⟩ := bnd_x hf
  obtain ⟨g_x5, q_x5⟩ := xI_x e_x5
  refine go_sload d_Law_law_1251 g_x5 ?_
  rw [← q_x5]
  refine go_aloadS_n 1 d_Law_law_1252 rfl ?_
  refine go_iload 5 d_Law_law_1253 rfl ?_
  refine go_iconst (2 : Int32) d_Law_law_1255 (by decide) ?_
  refine go_iadd d_Law_law_1256 ?_
  obtain ⟨x6, e_x6, hf⟩ := bnd_x hf
  obtain ⟨g_x6, q_x6⟩ := xI_x e_x6
  refine go_sload d_Law_law_1257 g_x6 ?_
  rw [← q_x6]
  obtain ⟨_, e7, hf⟩ := bnd_x hf
  obtain ⟨x8, h9, e_x8, hf⟩ := bnd2_x hf
  refine go_callV_I (As := [.int x5, .int x6]) (st := []) (c_Mo_possible (d := 200) (by omega) e_x8) lk_Law_161 rfl rfl e7 (by decide) rfl ⟨by decide, by decide⟩ (Nat.le_of_ble_eq_true rfl) ⟨by show _ ≤ 601024; omega, by show _ ≤ 7293034; omega⟩ d_Law_law_1258 ?_
  refine go_istore (lv' := [(6, .int x8), (5, .int x3), (0, .retAddr 1), (1, .ref a1), (2, .ref a2), (3, .ref a3), (4, .int i4)]) d_Law_law_1261 rfl (by decide) ?_
  refine go_aload_n 4 d_Law_law_1263 rfl ?_
  obtain ⟨_, e10, hf⟩ := bnd_x hf
  obtain ⟨x11, e_x11, hf⟩ := bnd_x hf
  refine go_callV_I (As := []) (st := []) (c_Mo_thrown (d := 200) (by omega) e_x11) lk_Law_88 rfl rfl e10 (by decide) rfl ⟨by decide, by decide⟩ (Nat.le_of_ble_eq_true rfl) ⟨by show _ ≤ 601024; omega, by show _ ≤ 7293034; omega⟩ d_Law_law_1264 ?_
  refine go_iload 1 d_Law_law_1267 rfl ?_
  refine go_icmp_eq 1274 d_Law_law_1269 (by decide) (fun q17 => ?_) (fun q17 => ?_)
  · rw [if_pos q17] at hf
    refine go_iload 1 d_Law_law_1274 rfl ?_
    refine go_if_ne 1298 d_Law_law_1276 (by decide) (fun q16 => ?_) (fun q16 => ?_)
    · rw [if_neg q16] at hf
      refine go_goto 1454 d_Law_law_1298 (by decide) ?_
      refine go_iinc (lv' := [(4, .int (i4 + (4 : Int32))), (6, .int x8), (5, .int x3), (0, .retAddr 1), (1, .ref a1), (2, .ref a2), (3, .ref a3)]) 6 (i4 + (4 : Int32)) d_Law_law_1454 rfl rfl rfl (by decide) ?_
      refine go_goto 23 d_Law_law_1457 (by decide) ?_
      refine go_sub (lv' := [(0, .retAddr 1), (1, .ref a1), (2, .ref a2), (3, .ref a3), (4, .int (i4 + (4 : Int32)))]) [3, 4, 5, 6, 0] rfl ?_
      exact hk a1 a2 a3 (i4 + (4 : Int32)) h9 _ _ _ (by omega) (by omega) hf
    · rw [if_pos q16] at hf
      refine go_aload_n 5 d_Law_law_1279 rfl ?_
      refine go_iconst (0 : Int32) d_Law_law_1280 (by decide) ?_
      obtain ⟨x12, e_x12, hf⟩ := bnd_x hf
      refine go_laload d_Law_law_1281 e_x12 ?_
      refine go_iload 0 d_Law_law_1282 rfl ?_
      refine go_if_eq 1291 d_Law_law_1284 (by decide) (fun q15 => ?_) (fun q15 => ?_)
      · rw [if_pos q15] at hf
        refine go_lconst (0 : Int64) d_Law_law_1291 (by decide) ?_
        refine go_lcmp d_Law_law_1292 ?_
        refine go_if_eq 1298 d_Law_law_1293 (by decide) (fun q13 => ?_) (fun q13 => ?_)
        · rw [if_pos q13] at hf
          refine go_goto 1454 d_Law_law_1298 (by decide) ?_
          refine go_iinc (lv' := [(4, .int (i4 + (4 : Int32))), (6, .int x8), (5, .int x3), (0, .retAddr 1), (1, .ref a1), (2, .ref a2), (3, .ref a3)]) 6 (i4 + (4 : Int32)) d_Law_law_1454 rfl rfl rfl (by decide) ?_
          refine go_goto 23 d_Law_law_1457 (by decide) ?_
          refine go_sub (lv' := [(0, .retAddr 1), (1, .ref a1), (2, .ref a2), (3, .ref a3), (4, .int (i4 + (4 : Int32)))]) [3, 4, 5, 6, 0] rfl ?_
          exact hk a1 a2 a3 (i4 + (4 : Int32)) h9 _ _ _ (by omega) (by omega) hf
        · rw [if_neg q13] at hf
          refine go_iconst (0 : Int32) d_Law_law_1296 (by decide) ?_
          exact absurd (Option.some.inj hf) (by decide)
      · rw [if_neg q15] at hf
        refine go_lconst (1 : Int64) d_Law_law_1287 (by decide) ?_
        refine go_goto 1292 d_Law_law_1288 (by decide) ?_
        refine go_lcmp d_Law_law_1292 ?_
        refine go_if_eq 1298 d_Law_law_1293 (by decide) (fun q14 => ?_) (fun q14 => ?_)
        · rw [if_pos q14] at hf
          refine go_goto 1454 d_Law_law_1298 (by decide) ?_
          refine go_iinc (lv' := [(4, .int (i4 + (4 : Int32))), (6, .int x8), (5, .int x3), (0, .retAddr 1), (1, .ref a1), (2, .ref a2), (3, .ref a3)]) 6 (i4 + (4 : Int32)) d_Law_law_1454 rfl rfl rfl (by decide) ?_
          refine go_goto 23 d_Law_law_1457 (by decide) ?_
          refine go_sub (lv' := [(0, .retAddr 1), (1, .ref a1), (2, .ref a2), (3, .ref a3), (4, .int (i4 + (4 : Int32)))]) [3, 4, 5, 6, 0] rfl ?_
          exact hk a1 a2 a3 (i4 + (4 : Int32)) h9 _ _ _ (by omega) (by omega) hf
        · rw [if_neg q14] at hf
          refine go_iconst (0 : Int32) d_Law_law_1296 (by decide) ?_
          exact absurd (Option.some.inj hf) (by decide)
  · rw [if_neg q17] at hf
    refine go_iconst (0 : Int32) d_Law_law_1272 (by decide) ?_
    exact absurd (Option.some.inj hf) (by decide)
def b_Law_law_1301 (F L : Nat) (xs : Nat → Int32) (k23 : Nat → Nat → Nat → Int32 → PH → Option Int32) (a1 : Nat) (a2 : Nat) (a3 : Nat) (i4 : Int32) (h : PH) : Option Int32 :=
  bnd (cK h a1 9) fun _ => bnd2 (f_Np_needed F a1 h) fun x2 h3 => bnd (cK h3 a2 10) fun _ => bnd2 (f_Mo_needed F a2 h3) fun x5 h6 => (if x2 = x5 then k23 a1 a2 a3 (i4 + (4 : Int32)) h6 else some (0 : Int32))
theorem gl_1301 {l : Launch} {E : ET} (hl : l.stackTraces = false) {F kc ks x : Nat} (hc : kc + 1 ≤ 601000 ∧ ks + 6 ≤ 7290000) {k23 : Nat → Nat → Nat → Int32 → PH → Option Int32} (hk : ∀ (a1 : Nat) (a2 : Nat) (a3 : Nat) (i4 : Int32) (hh : PH) (x' kc' ks' : Nat), kc' ≤ kc + 1 → ks' ≤ ks + 6 → k23 a1 a2 a3 i4 hh = some 1 → Go l E m_Law_law room_1 (KI (KLw E)) kc' ks' hh x' 23 [(0, .retAddr 1), (1, .ref a1), (2, .ref a2), (3, .ref a3), (4, .int i4)] []) (a1 : Nat) (a2 : Nat) (a3 : Nat) (i4 : Int32) (h : PH) (hf : b_Law_law_1301 F (eL E) (eX E) k23 a1 a2 a3 i4 h = some 1) : Go l E m_Law_law room_1 (KI (KLw E)) kc ks h x 1301 [(0, .retAddr 1), (1, .ref a1), (2, .ref a2), (3, .ref a3), (4, .int i4)] [] := by
  unfold b_Law_law_1301 at hf
  refine go_aload_n 1 d_Law_law_1301 rfl ?_
  obtain ⟨_, e1, hf⟩ := bnd_x hf
  obtain ⟨x2, h3, e_x2, hf⟩ := bnd2_x hf
  refine go_callV_I (As := []) (st := []) (c_Np_needed (d := 200) (by omega) e_x2) lk_Law_162 rfl rfl e1 (by decide) rfl ⟨by decide, by decide⟩ (Nat.le_of_ble_eq_true rfl) ⟨by show _ ≤ 601024; omega, by show _ ≤ 7293034; omega⟩ d_Law_law_1302 ?_
  refine go_aload_n 2 d_Law_law_1305 rfl ?_
  obtain ⟨_, e4, hf⟩ := bnd_x hf
  obtain ⟨x5, h6, e_x5, hf⟩ := bnd2_x hf
  refine go_callV_I (As := []) (st := [.int x2]) (c_Mo_needed (d := 200) (by omega) e_x5) lk_Law_165 rfl rfl e4 (by decide) rfl ⟨by decide, by decide⟩ (Nat.le_of_ble_eq_true rfl) ⟨by show _ ≤ 601024; omega, by show _ ≤ 7293034; omega⟩ d_Law_law_1306 ?_
  refine go_icmp_eq 1454 d_Law_law_1309 (by decide) (fun q7 => ?_) (fun q7 => ?_)
  · rw [if_pos q7] at hf
    refine go_iinc (lv' := [(4, .int (i4 + (4 : Int32))), (0, .retAddr 1), (1, .ref a1), (2, .ref a2), (3, .ref a3)]) 4 (i4 + (4 : Int32)) d_Law_law_1454 rfl rfl rfl (by decide) ?_
    refine go_goto 23 d_Law_law_1457 (by decide) ?_
    refine go_sub (lv' := [(0, .retAddr 1), (1, .ref a1), (2, .ref a2), (3, .ref a3), (4, .int (i4 + (4 : Int32)))]) [1, 2, 3, 4, 0] rfl ?_
    exact hk a1 a2 a3 (i4 + (4 : Int32)) h6 _ _ _ (by omega) (by omega) hf
  · rw [if_neg q7] at hf
    refine go_iconst (0 : Int32) d_Law_law_1312 (by decide) ?_
    exact absurd (Option.some.inj hf) (by decide)
def b_Law_law_1314 (F L : Nat) (xs : Nat → Int32) (k23 : Nat → Nat → Nat → Int32 → PH → Option Int32) (a1 : Nat) (a2 : Nat) (a3 : Nat) (i4 : Int32) (h : PH) : Option Int32 :=
  bnd (xI L xs (i4 + (1 : Int32))) fun x1 => bnd2 (f_Law_append a1 x1 a3 h) fun x2 h3 => bnd (xI L xs (i4 + (1 : Int32))) fun x4 => bnd (cK h3 a2 10) fun _ => bnd2 (f_Mo_append a2 x4 h3) fun x6 h7 => bnd (cK h7 a2 10) fun _ => bnd (f_Mo_thrown a2 h7) fun x9 => (if x9 = x2 then (if x2 = (0 : Int32) then bnd (aL h7 a3 (0 : Int32)) fun x10 => (if (lg_cmp x10 (x6.toInt64)) = (0 : Int32) then k23 a1 a2 a3 (i4 + (4 : Int32)) h7 else some (0 : Int32)) else k23 a1 a2 a3 (i4 + (4 : Int32)) h7) else some (0 : Int32))
theorem gl_1314 {l : Launch} {E : ET} (hl : l.stackTraces = false) {F kc ks x : Nat} (hc : kc + 1 ≤ 601000 ∧ ks + 6 ≤ 7290000) {k23 : Nat → Nat → Nat → Int32 → PH → Option Int32} (hk : ∀ (a1 : Nat) (a2 : Nat) (a3 : Nat) (i4 : Int32) (hh : PH) (x' kc' ks' : Nat), kc' ≤ kc + 1 → ks' ≤ ks + 6 → k23 a1 a2 a3 i4 hh = some 1 → Go l E m_Law_law room_1 (KI (KLw E)) kc' ks' hh x' 23 [(0, .retAddr 1), (1, .ref a1), (2, .ref a2), (3, .ref a3), (4, .int i4)] []) (a1 : Nat) (a2 : Nat) (a3 : Nat) (i4 : Int32) (h : PH) (hf : b_Law_law_1314 F (eL E) (eX E) k23 a1 a2 a3 i4 h = some 1) : Go l E m_Law_law room_1 (KI (KLw E)) kc ks h x 1314 [(0, .retAddr 1), (1, .ref a1), (2, .ref a2), (3, .ref a3), (4, .int i4)] [] := by
  unfold b_Law_law_1314 at hf
  refine go_aload_n 1 d_Law_law_1314 rfl ?_
  refine go_aloadS_n 0 d_Law_law_1315 rfl ?_
  refine go_iload 4 d_Law_law_1316 rfl ?_
  refine go_iconst (1 : Int32) d_Law_law_1318 (by decide) ?_
  refine go_iadd d_Law_law_1319 ?_
  obtain ⟨x1, e_x1, hf⟩ := bnd_x hf
  obtain ⟨g_x1, q_x1⟩ := xI_x e_x1
  refine go_sload d_Law_law_1320 g_x1 ?_
  rw [← q_x1]
  refine go_aload_n 3 d_Law_law_1321 rfl ?_
  obtain ⟨x2, h3, e_x2, hf⟩ := bnd2_x hf
  refine go_callW (As := [.ref a1, .int x1, .ref a3]) (st := []) (c_Law_append hl (d := 200) (by omega) e_x2) lk_Law_166 rfl rfl ⟨by decide, by decide⟩ (Nat.le_of_ble_eq_true rfl) ⟨by show _ ≤ 601024; omega, by show _ ≤ 7293034; omega⟩ d_Law_law_1322 (fun x => ?_)
  refine go_istore (lv' := [(5, .int x2), (0, .retAddr 1), (1, .ref a1), (2, .ref a2), (3, .ref a3), (4, .int i4)]) d_Law_law_1325 rfl (by decide) ?_
  refine go_aload_n 3 d_Law_law_1327 rfl ?_
  refine go_aloadS_n 1 d_Law_law_1328 rfl ?_
  refine go_iload 5 d_Law_law_1329 rfl ?_
  refine go_iconst (1 : Int32) d_Law_law_1331 (by decide) ?_
  refine go_iadd d_Law_law_1332 ?_
  obtain ⟨x4, e_x4, hf⟩ := bnd_x hf
  obtain ⟨g_x4, q_x4⟩ := xI_x e_x4
  refine go_sload d_Law_law_1333 g_x4 ?_
  rw [← q_x4]
  obtain ⟨_, e5, hf⟩ := bnd_x hf
  obtain ⟨x6, h7, e_x6, hf⟩ := bnd2_x hf
  refine go_callV_I (As := [.int x4]) (st := []) (c_Mo_append (d := 200) (by omega) e_x6) lk_Law_168 rfl rfl e5 (by decide) rfl ⟨by decide, by decide⟩ (Nat.le_of_ble_eq_true rfl) ⟨by show _ ≤ 601024; omega, by show _ ≤ 7293034; omega⟩ d_Law_law_1334 ?_
  refine go_istore (lv' := [(6, .int x6), (5, .int x2), (0, .retAddr 1), (1, .ref a1), (2, .ref a2), (3, .ref a3), (4, .int i4)]) d_Law_law_1337 rfl (by decide) ?_
  refine go_aload_n 4 d_Law_law_1339 rfl ?_
  obtain ⟨_, e8, hf⟩ := bnd_x hf
  obtain ⟨x9, e_x9, hf⟩ := bnd_x hf
  refine go_callV_I (As := []) (st := []) (c_Mo_thrown (d := 200) (by omega) e_x9) lk_Law_88 rfl rfl e8 (by decide) rfl ⟨by decide, by decide⟩ (Nat.le_of_ble_eq_true rfl) ⟨by show _ ≤ 601024; omega, by show _ ≤ 7293034; omega⟩ d_Law_law_1340 ?_
  refine go_iload 1 d_Law_law_1343 rfl ?_
  refine go_icmp_eq 1350 d_Law_law_1345 (by decide) (fun q13 => ?_) (fun q13 => ?_)
  · rw [if_pos q13] at hf
    refine go_iload 1 d_Law_law_1350 rfl ?_
    refine go_if_ne 1367 d_Law_law_1352 (by decide) (fun q12 => ?_) (fun q12 => ?_)
    · rw [if_neg q12] at hf
      refine go_goto 1454 d_Law_law_1367 (by decide) ?_
      refine go_iinc (lv' := [(4, .int (i4 + (4 : Int32))), (6, .int x6), (5, .int x2), (0, .retAddr 1), (1, .ref a1), (2, .ref a2), (3, .ref a3)]) 6 (i4 + (4 : Int32)) d_Law_law_1454 rfl rfl rfl (by decide) ?_
      refine go_goto 23 d_Law_law_1457 (by decide) ?_
      refine go_sub (lv' := [(0, .retAddr 1), (1, .ref a1), (2, .ref a2), (3, .ref a3), (4, .int (i4 + (4 : Int32)))]) [3, 4, 5, 6, 0] rfl ?_
      exact hk a1 a2 a3 (i4 + (4 : Int32)) h7 _ _ _ (by omega) (by omega) hf
    · rw [if_pos q12] at hf
      refine go_aload_n 5 d_Law_law_1355 rfl ?_
      refine go_iconst (0 : Int32) d_Law_law_1356 (by decide) ?_
      obtain ⟨x10, e_x10, hf⟩ := bnd_x hf
      refine go_laload d_Law_law_1357 e_x10 ?_
      refine go_iload 0 d_Law_law_1358 rfl ?_
      refine go_i2l d_Law_law_1360 ?_
      refine go_lcmp d_Law_law_1361 ?_
      refine go_if_eq 1367 d_Law_law_1362 (by decide) (fun q11 => ?_) (fun q11 => ?_)
      · rw [if_pos q11] at hf
        refine go_goto 1454 d_Law_law_1367 (by decide) ?_
        refine go_iinc (lv' := [(4, .int (i4 + (4 : Int32))), (6, .int x6), (5, .int x2), (0, .retAddr 1), (1, .ref a1), (2, .ref a2), (3, .ref a3)]) 6 (i4 + (4 : Int32)) d_Law_law_1454 rfl rfl rfl (by decide) ?_
        refine go_goto 23 d_Law_law_1457 (by decide) ?_
        refine go_sub (lv' := [(0, .retAddr 1), (1, .ref a1), (2, .ref a2), (3, .ref a3), (4, .int (i4 + (4 : Int32)))]) [3, 4, 5, 6, 0] rfl ?_
        exact hk a1 a2 a3 (i4 + (4 : Int32)) h7 _ _ _ (by omega) (by omega) hf
      · rw [if_neg q11] at hf
        refine go_iconst (0 : Int32) d_Law_law_1365 (by decide) ?_
        exact absurd (Option.some.inj hf) (by decide)
  · rw [if_neg q13] at hf
    refine go_iconst (0 : Int32) d_Law_law_1348 (by decide) ?_
    exact absurd (Option.some.inj hf) (by decide)
def b_Law_law_1370 (F L : Nat) (xs : Nat → Int32) (k23 : Nat → Nat → Nat → Int32 → PH → Option Int32) (a1 : Nat) (a2 : Nat) (a3 : Nat) (i4 : Int32) (h : PH) : Option Int32 :=
  bnd (cK h a1 9) fun _ => bnd2 (f_Np_clearText a1 h) fun x2 h3 => bnd (cK h3 a2 10) fun _ => bnd2 (f_Mo_clearText a2 h3) fun x5 h6 => (if x2 = x5 then k23 a1 a2 a3 (i4 + (4 : Int32)) h6 else some (0 : Int32))
theorem gl_1370 {l : Launch} {E : ET} (hl : l.stackTraces = false) {F kc ks x : Nat} (hc : kc + 1 ≤ 601000 ∧ ks + 6 ≤ 7290000) {k23 : Nat → Nat → Nat → Int32 → PH → Option Int32} (hk : ∀ (a1 : Nat) (a2 : Nat) (a3 : Nat) (i4 : Int32) (hh : PH) (x' kc' ks' : Nat), kc' ≤ kc + 1 → ks' ≤ ks + 6 → k23 a1 a2 a3 i4 hh = some 1 → Go l E m_Law_law room_1 (KI (KLw E)) kc' ks' hh x' 23 [(0, .retAddr 1), (1, .ref a1), (2, .ref a2), (3, .ref a3), (4, .int i4)] []) (a1 : Nat) (a2 : Nat) (a3 : Nat) (i4 : Int32) (h : PH) (hf : b_Law_law_1370 F (eL E) (eX E) k23 a1 a2 a3 i4 h = some 1) : Go l E m_Law_law room_1 (KI (KLw E)) kc ks h x 1370 [(0, .retAddr 1), (1, .ref a1), (2, .ref a2), (3, .ref a3), (4, .int i4)] [] := by
  unfold b_Law_law_1370 at hf
  refine go_aload_n 1 d_Law_law_1370 rfl ?_
  obtain ⟨_, e1, hf⟩ := bnd_x hf
  obtain ⟨x2, h3, e_x2, hf⟩ := bnd2_x hf
  refine go_callV_I (As := []) (st := []) (c_Np_clearText (d := 200) (by omega) e_x2) lk_Law_169 rfl rfl e1 (by decide) rfl ⟨by decide, by decide⟩ (Nat.le_of_ble_eq_true rfl) ⟨by show _ ≤ 601024; omega, by show _ ≤ 7293034; omega⟩ d_Law_law_1371 ?_
  refine go_aload_n 2 d_Law_law_1374 rfl ?_
  obtain ⟨_, e4, hf⟩ := bnd_x hf
  obtain ⟨x5, h6, e_x5, hf⟩ := bnd2_x hf
  refine go_callV_I (As := []) (st := [.int x2]) (c_Mo_clearText (d := 200) (by omega) e_x5) lk_Law_172 rfl rfl e4 (by decide) rfl ⟨by decide, by decide⟩ (Nat.le_of_ble_eq_true rfl) ⟨by show _ ≤ 601024; omega, by show _ ≤ 7293034; omega⟩ d_Law_law_1375 ?_
  refine go_icmp_eq 1454 d_Law_law_1378 (by decide) (fun q7 => ?_) (fun q7 => ?_)
  · rw [if_pos q7] at hf
    refine go_iinc (lv' := [(4, .int (i4 + (4 : Int32))), (0, .retAddr 1), (1, .ref a1), (2, .ref a2), (3, .ref a3)]) 4 (i4 + (4 : Int32)) d_Law_law_1454 rfl rfl rfl (by decide) ?_
    refine go_goto 23 d_Law_law_1457 (by decide) ?_
    refine go_sub (lv' := [(0, .retAddr 1), (1, .ref a1), (2, .ref a2), (3, .ref a3), (4, .int (i4 + (4 : Int32)))]) [1, 2, 3, 4, 0] rfl ?_
    exact hk a1 a2 a3 (i4 + (4 : Int32)) h6 _ _ _ (by omega) (by omega) hf
  · rw [if_neg q7] at hf
    refine go_iconst (0 : Int32) d_Law_law_1381 (by decide) ?_
    exact absurd (Option.some.inj hf) (by decide)
def b_Law_law_1383 (F L : Nat) (xs : Nat → Int32) (k23 : Nat → Nat → Nat → Int32 → PH → Option Int32) (a1 : Nat) (a2 : Nat) (a3 : Nat) (i4 : Int32) (h : PH) : Option Int32 :=
  bnd (cK h a1 9) fun _ => bnd2 (f_Np_parse F a1 h) fun x2 h3 => bnd (cK h3 a2 10) fun _ => bnd2 (f_Mo_parse F a2 h3) fun x5 h6 => (if x2 = x5 then k23 a1 a2 a3 (i4 + (4 : Int32)) h6 else some (0 : Int32))
theorem gl_1383 {l : Launch} {E : ET} (hl : l.stackTraces = false) {F kc ks x : Nat} (hc : kc + 1 ≤ 601000 ∧ ks + 6 ≤ 7290000) {k23 : Nat → Nat → Nat → Int32 → PH → Option Int32} (hk : ∀ (a1 : Nat) (a2 : Nat) (a3 : Nat) (i4 : Int32) (hh : PH) (x' kc' ks' : Nat), kc' ≤ kc + 1 → ks' ≤ ks + 6 → k23 a1 a2 a3 i4 hh = some 1 → Go l E m_Law_law room_1 (KI (KLw E)) kc' ks' hh x' 23 [(0, .retAddr 1), (1, .ref a1), (2, .ref a2), (3, .ref a3), (4, .int i4)] []) (a1 : Nat) (a2 : Nat) (a3 : Nat) (i4 : Int32) (h : PH) (hf : b_Law_law_1383 F (eL E) (eX E) k23 a1 a2 a3 i4 h = some 1) : Go l E m_Law_law room_1 (KI (KLw E)) kc ks h x 1383 [(0, .retAddr 1), (1, .ref a1), (2, .ref a2), (3, .ref a3), (4, .int i4)] [] := by
  unfold b_Law_law_1383 at hf
  refine go_aload_n 1 d_Law_law_1383 rfl ?_
  obtain ⟨_, e1, hf⟩ := bnd_x hf
  obtain ⟨x2, h3, e_x2, hf⟩ := bnd2_x hf
  refine go_callV_I (As := []) (st := []) (c_Np_parse (d := 200) (by omega) e_x2) lk_Law_173 rfl rfl e1 (by decide) rfl ⟨by decide, by decide⟩ (Nat.le_of_ble_eq_true rfl) ⟨by show _ ≤ 601024; omega, by show _ ≤ 7293034; omega⟩ d_Law_law_1384 ?_
  refine go_aload_n 2 d_Law_law_1387 rfl ?_
  obtain ⟨_, e4, hf⟩ := bnd_x hf
  obtain ⟨x5, h6, e_x5, hf⟩ := bnd2_x hf
  refine go_callV_I (As := []) (st := [.int x2]) (c_Mo_parse (d := 200) (by omega) e_x5) lk_Law_176 rfl rfl e4 (by decide) rfl ⟨by decide, by decide⟩ (Nat.le_of_ble_eq_true rfl) ⟨by show _ ≤ 601024; omega, by show _ ≤ 7293034; omega⟩ d_Law_law_1388 ?_
  refine go_icmp_eq 1454 d_Law_law_1391 (by decide) (fun q7 => ?_) (fun q7 => ?_)
  · rw [if_pos q7] at hf
    refine go_iinc (lv' := [(4, .int (i4 + (4 : Int32))), (0, .retAddr 1), (1, .ref a1), (2, .ref a2), (3, .ref a3)]) 4 (i4 + (4 : Int32)) d_Law_law_1454 rfl rfl rfl (by decide) ?_
    refine go_goto 23 d_Law_law_1457 (by decide) ?_
    refine go_sub (lv' := [(0, .retAddr 1), (1, .ref a1), (2, .ref a2), (3, .ref a3), (4, .int (i4 + (4 : Int32)))]) [1, 2, 3, 4, 0] rfl ?_
    exact hk a1 a2 a3 (i4 + (4 : Int32)) h6 _ _ _ (by omega) (by omega) hf
  · rw [if_neg q7] at hf
    refine go_iconst (0 : Int32) d_Law_law_1394 (by decide) ?_
    exact absurd (Option.some.inj hf) (by decide)
def b_Law_law_1396 (F L : Nat) (xs : Nat → Int32) (k23 : Nat → Nat → Nat → Int32 → PH → Option Int32) (a1 : Nat) (a2 : Nat) (a3 : Nat) (i4 : Int32) (h : PH) : Option Int32 :=
  bnd2 (f_Law_undo a1 a3 h) fun x1 h2 => bnd (cK h2 a2 10) fun _ => bnd2 (f_Mo_undo F a2 h2) fun x4 h5 => bnd (cK h5 a2 10) fun _ => bnd (f_Mo_thrown a2 h5) fun x7 => (if x7 = x1 then (if x1 = (0 : Int32) then bnd (aL h5 a3 (0 : Int32)) fun x8 => (if (lg_cmp x8 (x4.toInt64)) = (0 : Int32) then k23 a1 a2 a3 (i4 + (4 : Int32)) h5 else some (0 : Int32)) else k23 a1 a2 a3 (i4 + (4 : Int32)) h5) else some (0 : Int32))
theorem gl_1396 {l : Launch} {E : ET} (hl : l.stackTraces = false) {F kc ks x : Nat} (hc : kc + 1 ≤ 601000 ∧ ks + 6 ≤ 7290000) {k23 : Nat → Nat → Nat → Int32 → PH → Option Int32} (hk : ∀ (a1 : Nat) (a2 : Nat) (a3 : Nat) (i4 : Int32) (hh : PH) (x' kc' ks' : Nat), kc' ≤ kc + 1 → ks' ≤ ks + 6 → k23 a1 a2 a3 i4 hh = some 1 → Go l E m_Law_law room_1 (KI (KLw E)) kc' ks' hh x' 23 [(0, .retAddr 1), (1, .ref a1), (2, .ref a2), (3, .ref a3), (4, .int i4)] []) (a1 : Nat) (a2 : Nat) (a3 : Nat) (i4 : Int32) (h : PH) (hf : b_Law_law_1396 F (eL E) (eX E) k23 a1 a2 a3 i4 h = some 1) : Go l E m_Law_law room_1 (KI (KLw E)) kc ks h x 1396 [(0, .retAddr 1), (1, .ref a1), (2, .ref a2), (3, .ref a3), (4, .int i4)] [] := by
  unfold b_Law_law_1396 at hf
  refine go_aload_n 1 d_Law_law_1396 rfl ?_
  refine go_aload_n 3 d_Law_law_1397 rfl ?_
  obtain ⟨x1, h2, e_x1, hf⟩ := bnd2_x hf
  refine go_callW (As := [.ref a1, .ref a3]) (st := []) (c_Law_undo hl (d := 200) (by omega) e_x1) lk_Law_177 rfl rfl ⟨by decide, by decide⟩ (Nat.le_of_ble_eq_true rfl) ⟨by show _ ≤ 601024; omega, by show _ ≤ 7293034; omega⟩ d_Law_law_1398 (fun x => ?_)
  refine go_istore (lv' := [(5, .int x1), (0, .retAddr 1), (1, .ref a1), (2, .ref a2), (3, .ref a3), (4, .int i4)]) d_Law_law_1401 rfl (by decide) ?_
  refine go_aload_n 3 d_Law_law_1403 rfl ?_
  obtain ⟨_, e3, hf⟩ := bnd_x hf
  obtain ⟨x4, h5, e_x4, hf⟩ := bnd2_x hf
  refine go_callV_I (As := []) (st := []) (c_Mo_undo (d := 200) (by omega) e_x4) lk_Law_180 rfl rfl e3 (by decide) rfl ⟨by decide, by decide⟩ (Nat.le_of_ble_eq_true rfl) ⟨by show _ ≤ 601024; omega, by show _ ≤ 7293034; omega⟩ d_Law_law_1404 ?_
  refine go_istore (lv' := [(6, .int x4), (5, .int x1), (0, .retAddr 1), (1, .ref a1), (2, .ref a2), (3, .ref a3), (4, .int i4)]) d_Law_law_1407 rfl (by decide) ?_
  refine go_aload_n 4 d_Law_law_1409 rfl ?_
  obtain ⟨_, e6, hf⟩ := bnd_x hf
  obtain ⟨x7, e_x7, hf⟩ := bnd_x hf
  refine go_callV_I (As := []) (st := []) (c_Mo_thrown (d := 200) (by omega) e_x7) lk_Law_88 rfl rfl e6 (by decide) rfl ⟨by decide, by decide⟩ (Nat.le_of_ble_eq_true rfl) ⟨by show _ ≤ 601024; omega, by show _ ≤ 7293034; omega⟩ d_Law_law_1410 ?_
  refine go_iload 1 d_Law_law_1413 rfl ?_
  refine go_icmp_eq 1420 d_Law_law_1415 (by decide) (fun q11 => ?_) (fun q11 => ?_)
  · rw [if_pos q11] at hf
    refine go_iload 1 d_Law_law_1420 rfl ?_
    refine go_if_ne 1437 d_Law_law_1422 (by decide) (fun q10 => ?_) (fun q10 => ?_)
    · rw [if_neg q10] at hf
      refine go_goto 1454 d_Law_law_1437 (by decide) ?_
      refine go_iinc (lv' := [(4, .int (i4 + (4 : Int32))), (6, .int x4), (5, .int x1), (0, .retAddr 1), (1, .ref a1), (2, .ref a2), (3, .ref a3)]) 6 (i4 + (4 : Int32)) d_Law_law_1454 rfl rfl rfl (by decide) ?_
      refine go_goto 23 d_Law_law_1457 (by decide) ?_
      refine go_sub (lv' := [(0, .retAddr 1), (1, .ref a1), (2, .ref a2), (3, .ref a3), (4, .int (i4 + (4 : Int32)))]) [3, 4, 5, 6, 0] rfl ?_
      exact hk a1 a2 a3 (i4 + (4 : Int32)) h5 _ _ _ (by omega) (by omega) hf
    · rw [if_pos q10] at hf
      refine go_aload_n 5 d_Law_law_1425 rfl ?_
      refine go_iconst (0 : Int32) d_Law_law_1426 (by decide) ?_
      obtain ⟨x8, e_x8, hf⟩ := bnd_x hf
      refine go_laload d_Law_law_1427 e_x8 ?_
      refine go_iload 0 d_Law_law_1428 rfl ?_
      refine go_i2l d_Law_law_1430 ?_
      refine go_lcmp d_Law_law_1431 ?_
      refine go_if_eq 1437 d_Law_law_1432 (by decide) (fun q9 => ?_) (fun q9 => ?_)
      · rw [if_pos q9] at hf
        refine go_goto 1454 d_Law_law_1437 (by decide) ?_
        refine go_iinc (lv' := [(4, .int (i4 + (4 : Int32))), (6, .int x4), (5, .int x1), (0, .retAddr 1), (1, .ref a1), (2, .ref a2), (3, .ref a3)]) 6 (i4 + (4 : Int32)) d_Law_law_1454 rfl rfl rfl (by decide) ?_
        refine go_goto 23 d_Law_law_1457 (by decide) ?_
        refine go_sub (lv' := [(0, .retAddr 1), (1, .ref a1), (2, .ref a2), (3, .ref a3), (4, .int (i4 + (4 : Int32)))]) [3, 4, 5, 6, 0] rfl ?_
        exact hk a1 a2 a3 (i4 + (4 : Int32)) h5 _ _ _ (by omega) (by omega) hf
      · rw [if_neg q9] at hf
        refine go_iconst (0 : Int32) d_Law_law_1435 (by decide) ?_
        exact absurd (Option.some.inj hf) (by decide)
  · rw [if_neg q11] at hf
    refine go_iconst (0 : Int32) d_Law_law_1418 (by decide) ?_
    exact absurd (Option.some.inj hf) (by decide)
def b_Law_law_1440 (F L : Nat) (xs : Nat → Int32) (k23 : Nat → Nat → Nat → Int32 → PH → Option Int32) (a1 : Nat) (a2 : Nat) (a3 : Nat) (i4 : Int32) (h : PH) : Option Int32 :=
  bnd (cK h a1 9) fun _ => bnd2 (unT (f_Np_digest F a1 h)) fun x2 h3 => bnd (cK h3 a2 10) fun _ => bnd2 (f_Mo_digest F a2 h3) fun x5 h6 => (if (lg_cmp x2 x5) = (0 : Int32) then k23 a1 a2 a3 (i4 + (4 : Int32)) h6 else some (0 : Int32))
theorem gl_1440 {l : Launch} {E : ET} (hl : l.stackTraces = false) {F kc ks x : Nat} (hc : kc + 1 ≤ 601000 ∧ ks + 6 ≤ 7290000) {k23 : Nat → Nat → Nat → Int32 → PH → Option Int32} (hk : ∀ (a1 : Nat) (a2 : Nat) (a3 : Nat) (i4 : Int32) (hh : PH) (x' kc' ks' : Nat), kc' ≤ kc + 1 → ks' ≤ ks + 6 → k23 a1 a2 a3 i4 hh = some 1 → Go l E m_Law_law room_1 (KI (KLw E)) kc' ks' hh x' 23 [(0, .retAddr 1), (1, .ref a1), (2, .ref a2), (3, .ref a3), (4, .int i4)] []) (a1 : Nat) (a2 : Nat) (a3 : Nat) (i4 : Int32) (h : PH) (hf : b_Law_law_1440 F (eL E) (eX E) k23 a1 a2 a3 i4 h = some 1) : Go l E m_Law_law room_1 (KI (KLw E)) kc ks h x 1440 [(0, .retAddr 1), (1, .ref a1), (2, .ref a2), (3, .ref a3), (4, .int i4)] [] := by
  unfold b_Law_law_1440 at hf
  refine go_aload_n 1 d_Law_law_1440 rfl ?_
  obtain ⟨_, e1, hf⟩ := bnd_x hf
  obtain ⟨x2, h3, e_x2, hf⟩ := bnd2_x hf
  refine go_callV_L (As := []) (st := []) (c_Np_digest (d := 200) (by omega) (unT_x e_x2)) lk_Law_181 rfl rfl e1 (by decide) rfl ⟨by decide, by decide⟩ (Nat.le_of_ble_eq_true rfl) ⟨by show _ ≤ 601024; omega, by show _ ≤ 7293034; omega⟩ d_Law_law_1441 ?_
  refine go_aload_n 2 d_Law_law_1444 rfl ?_
  obtain ⟨_, e4, hf⟩ := bnd_x hf
  obtain ⟨x5, h6, e_x5, hf⟩ := bnd2_x hf
  refine go_callV_L (As := []) (st := [.long x2]) (c_Mo_digest (d := 200) (by omega) e_x5) lk_Law_185 rfl rfl e4 (by decide) rfl ⟨by decide, by decide⟩ (Nat.le_of_ble_eq_true rfl) ⟨by show _ ≤ 601024; omega, by show _ ≤ 7293034; omega⟩ d_Law_law_1445 ?_
  refine go_lcmp d_Law_law_1448 ?_
  refine go_if_eq 1454 d_Law_law_1449 (by decide) (fun q7 => ?_) (fun q7 => ?_)
  · rw [if_pos q7] at hf
    refine go_iinc (lv' := [(4, .int (i4 + (4 : Int32))), (0, .retAddr 1), (1, .ref a1), (2, .ref a2), (3, .ref a3)]) 4 (i4 + (4 : Int32)) d_Law_law_1454 rfl rfl rfl (by decide) ?_
    refine go_goto 23 d_Law_law_1457 (by decide) ?_
    refine go_sub (lv' := [(0, .retAddr 1), (1, .ref a1), (2, .ref a2), (3, .ref a3), (4, .int (i4 + (4 : Int32)))]) [1, 2, 3, 4, 0] rfl ?_
    exact hk a1 a2 a3 (i4 + (4 : Int32)) h6 _ _ _ (by omega) (by omega) hf
  · rw [if_neg q7] at hf
    refine go_iconst (0 : Int32) d_Law_law_1452 (by decide) ?_
    exact absurd (Option.some.inj hf) (by decide)
def b_Law_law_23 (F L : Nat) (xs : Nat → Int32) (k23 : Nat → Nat → Nat → Int32 → PH → Option Int32) (a1 : Nat) (a2 : Nat) (a3 : Nat) (i4 : Int32) (h : PH) : Option Int32 :=
  (if ((Int32.ofNat L) - (4 : Int32)) < i4 then some (1 : Int32) else bnd (xI L xs i4) fun x1 => (if (x1 &&& (31 : Int32)) = (0 : Int32) then b_Law_law_168 F L xs k23 a1 a2 a3 i4 h else (if (x1 &&& (31 : Int32)) = (1 : Int32) then b_Law_law_181 F L xs k23 a1 a2 a3 i4 h else (if (x1 &&& (31 : Int32)) = (2 : Int32) then b_Law_law_249 F L xs k23 a1 a2 a3 i4 h else (if (x1 &&& (31 : Int32)) = (3 : Int32) then b_Law_law_324 F L xs k23 a1 a2 a3 i4 h else (if (x1 &&& (31 : Int32)) = (4 : Int32) then b_Law_law_404 F L xs k23 a1 a2 a3 i4 h else (if (x1 &&& (31 : Int32)) = (5 : Int32) then b_Law_law_472 F L xs k23 a1 a2 a3 i4 h else (if (x1 &&& (31 : Int32)) = (6 : Int32) then b_Law_law_485 F L xs k23 a1 a2 a3 i4 h else (if (x1 &&& (31 : Int32)) = (7 : Int32) then b_Law_law_553 F L xs k23 a1 a2 a3 i4 h else (if (x1 &&& (31 : Int32)) = (8 : Int32) then b_Law_law_621 F L xs k23 a1 a2 a3 i4 h else (if (x1 &&& (31 : Int32)) = (9 : Int32) then b_Law_law_689 F L xs k23 a1 a2 a3 i4 h else (if (x1 &&& (31 : Int32)) = (10 : Int32) then b_Law_law_745 F L xs k23 a1 a2 a3 i4 h else (if (x1 &&& (31 : Int32)) = (11 : Int32) then b_Law_law_801 F L xs k23 a1 a2 a3 i4 h else (if (x1 &&& (31 : Int32)) = (12 : Int32) then b_Law_law_869 F L xs k23 a1 a2 a3 i4 h else (if (x1 &&& (31 : Int32)) = (13 : Int32) then b_Law_law_925 F L xs k23 a1 a2 a3 i4 h else (if (x1 &&& (31 : Int32)) = (14 : Int32) then b_Law_law_938 F L xs k23 a1 a2 a3 i4 h else (if (x1 &&& (31 : Int32)) = (15 : Int32) then b_Law_law_951 F L xs k23 a1 a2 a3 i4 h else (if (x1 &&& (31 : Int32)) = (16 : Int32) then b_Law_law_964 F L xs k23 a1 a2 a3 i4 h else (if (x1 &&& (31 : Int32)) = (17 : Int32) then b_Law_law_1032 F L xs k23 a1 a2 a3 i4 h else (if (x1 &&& (31 : Int32)) = (18 : Int32) then b_Law_law_1088 F L xs k23 a1 a2 a3 i4 h else (if (x1 &&& (31 : Int32)) = (19 : Int32) then b_Law_law_1144 F L xs k23 a1 a2 a3 i4 h else (if (x1 &&& (31 : Int32)) = (20 : Int32) then b_Law_law_1157 F L xs k23 a1 a2 a3 i4 h else (if (x1 &&& (31 : Int32)) = (21 : Int32) then b_Law_law_1213 F L xs k23 a1 a2 a3 i4 h else (if (x1 &&& (31 : Int32)) = (22 : Int32) then b_Law_law_1226 F L xs k23 a1 a2 a3 i4 h else (if (x1 &&& (31 : Int32)) = (23 : Int32) then b_Law_law_1301 F L xs k23 a1 a2 a3 i4 h else (if (x1 &&& (31 : Int32)) = (24 : Int32) then b_Law_law_1314 F L xs k23 a1 a2 a3 i4 h else (if (x1 &&& (31 : Int32)) = (25 : Int32) then b_Law_law_1370 F L xs k23 a1 a2 a3 i4 h else (if (x1 &&& (31 : Int32)) = (26 : Int32) then b_Law_law_1383 F L xs k23 a1 a2 a3 i4 h else (if (x1 &&& (31 : Int32)) = (27 : Int32) then b_Law_law_1396 F L xs k23 a1 a2 a3 i4 h else (if (x1 &&& (31 : Int32)) = (28 : Int32) then b_Law_law_1440 F L xs k23 a1 a2 a3 i4 h else k23 a1 a2 a3 (i4 + (4 : Int32)) h))))))))))))))))))))))))))))))
def f_Law_law_23 (F L : Nat) (xs : Nat → Int32) : Nat → Nat → Nat → Nat → Int32 → PH → Option Int32
  | 0 => fun _ _ _ _ _ => none
  | n + 1 => b_Law_law_23 F L xs (f_Law_law_23 F L xs n)
theorem gl_23 {l : Launch} {E : ET} (hl : l.stackTraces = false) {F kc ks x : Nat} (hc : kc + 1 ≤ 601000 ∧ ks + 6 ≤ 7290000) {k23 : Nat → Nat → Nat → Int32 → PH → Option Int32} (hk : ∀ (a1 : Nat) (a2 : Nat) (a3 : Nat) (i4 : Int32) (hh : PH) (x' kc' ks' : Nat), kc' ≤ kc + 1 → ks' ≤ ks + 6 → k23 a1 a2 a3 i4 hh = some 1 → Go l E m_Law_law room_1 (KI (KLw E)) kc' ks' hh x' 23 [(0, .retAddr 1), (1, .ref a1), (2, .ref a2), (3, .ref a3), (4, .int i4)] []) (a1 : Nat) (a2 : Nat) (a3 : Nat) (i4 : Int32) (h : PH) (hf : b_Law_law_23 F (eL E) (eX E) k23 a1 a2 a3 i4 h = some 1) : Go l E m_Law_law room_1 (KI (KLw E)) kc ks h x 23 [(0, .retAddr 1), (1, .ref a1), (2, .ref a2), (3, .ref a3), (4, .int i4)] [] := by
  unfold b_Law_law_23 at hf
  refine go_iload 4 d_Law_law_23 rfl ?_
  refine go_aloadS_n 0 d_Law_law_25 rfl ?_
  refine go_slen d_Law_law_26 ?_
  refine go_iconst (4 : Int32) d_Law_law_27 (by decide) ?_
  refine go_isub d_Law_law_28 ?_
  refine go_icmp_gt 1460 d_Law_law_29 (by decide) (fun q31 => ?_) (fun q31 => ?_)
  · rw [if_pos q31] at hf
    refine go_iconst (1 : Int32) d_Law_law_1460 (by decide) ?_
    exact go_lawret d_Law_law_1461 ⟨by omega, by omega⟩
  · rw [if_neg q31] at hf
    refine go_aloadS_n 0 d_Law_law_32 rfl ?_
    refine go_iload 4 d_Law_law_33 rfl ?_
    obtain ⟨x1, e_x1, hf⟩ := bnd_x hf
    obtain ⟨g_x1, q_x1⟩ := xI_x e_x1
    refine go_sload d_Law_law_35 g_x1 ?_
    rw [← q_x1]
    refine go_bipush (31 : Int32) d_Law_law_36 (by decide) ?_
    refine go_iand d_Law_law_38 ?_
    by_cases q2 : (x1 &&& (31 : Int32)) = (0 : Int32)
    · rw [if_pos q2] at hf
      refine go_tableIn 168 d_Law_law_39 (by rw [q2]; decide) (by rw [q2]; decide) (by rw [q2]; rfl) (by decide) ?_
      refine go_sub (lv' := [(0, .retAddr 1), (1, .ref a1), (2, .ref a2), (3, .ref a3), (4, .int i4)]) [0, 1, 2, 3, 4] rfl ?_
      exact gl_168 hl hc hk a1 a2 a3 i4 h hf
    · rw [if_neg q2] at hf
      by_cases q3 : (x1 &&& (31 : Int32)) = (1 : Int32)
      · rw [if_pos q3] at hf
        refine go_tableIn 181 d_Law_law_39 (by rw [q3]; decide) (by rw [q3]; decide) (by rw [q3]; rfl) (by decide) ?_
        refine go_sub (lv' := [(0, .retAddr 1), (1, .ref a1), (2, .ref a2), (3, .ref a3), (4, .int i4)]) [0, 1, 2, 3, 4] rfl ?_
        exact gl_181 hl hc hk a1 a2 a3 i4 h hf
      · rw [if_neg q3] at hf
        by_cases q4 : (x1 &&& (31 : Int32)) = (2 : Int32)
        · rw [if_pos q4] at hf
          refine go_tableIn 249 d_Law_law_39 (by rw [q4]; decide) (by rw [q4]; decide) (by rw [q4]; rfl) (by decide) ?_
          refine go_sub (lv' := [(0, .retAddr 1), (1, .ref a1), (2, .ref a2), (3, .ref a3), (4, .int i4)]) [0, 1, 2, 3, 4] rfl ?_
          exact gl_249 hl hc hk a1 a2 a3 i4 h hf
        · rw [if_neg q4] at hf
          by_cases q5 : (x1 &&& (31 : Int32)) = (3 : Int32)
          · rw [if_pos q5] at hf
            refine go_tableIn 324 d_Law_law_39 (by rw [q5]; decide) (by rw [q5]; decide) (by rw [q5]; rfl) (by decide) ?_
            refine go_sub (lv' := [(0, .retAddr 1), (1, .ref a1), (2, .ref a2), (3, .ref a3), (4, .int i4)]) [0, 1, 2, 3, 4] rfl ?_
            exact gl_324 hl hc hk a1 a2 a3 i4 h hf
          · rw [if_neg q5] at hf
            by_cases q6 : (x1 &&& (31 : Int32)) = (4 : Int32)
            · rw [if_pos q6] at hf
              refine go_tableIn 404 d_Law_law_39 (by rw [q6]; decide) (by rw [q6]; decide) (by rw [q6]; rfl) (by decide) ?_
              refine go_sub (lv' := [(0, .retAddr 1), (1, .ref a1), (2, .ref a2), (3, .ref a3), (4, .int i4)]) [0, 1, 2, 3, 4] rfl ?_
              exact gl_404 hl hc hk a1 a2 a3 i4 h hf
            · rw [if_neg q6] at hf
              by_cases q7 : (x1 &&& (31 : Int32)) = (5 : Int32)
              · rw [if_pos q7] at hf
                refine go_tableIn 472 d_Law_law_39 (by rw [q7]; decide) (by rw [q7]; decide) (by rw [q7]; rfl) (by decide) ?_
                refine go_sub (lv' := [(0, .retAddr 1), (1, .ref a1), (2, .ref a2), (3, .ref a3), (4, .int i4)]) [0, 1, 2, 3, 4] rfl ?_
                exact gl_472 hl hc hk a1 a2 a3 i4 h hf
              · rw [if_neg q7] at hf
                by_cases q8 : (x1 &&& (31 : Int32)) = (6 : Int32)
                · rw [if_pos q8] at hf
                  refine go_tableIn 485 d_Law_law_39 (by rw [q8]; decide) (by rw [q8]; decide) (by rw [q8]; rfl) (by decide) ?_
                  refine go_sub (lv' := [(0, .retAddr 1), (1, .ref a1), (2, .ref a2), (3, .ref a3), (4, .int i4)]) [0, 1, 2, 3, 4] rfl ?_
                  exact gl_485 hl hc hk a1 a2 a3 i4 h hf
                · rw [if_neg q8] at hf
                  by_cases q9 : (x1 &&& (31 : Int32)) = (7 : Int32)
                  · rw [if_pos q9] at hf
                    refine go_tableIn 553 d_Law_law_39 (by rw [q9]; decide) (by rw [q9]; decide) (by rw [q9]; rfl) (by decide) ?_
                    refine go_sub (lv' := [(0, .retAddr 1), (1, .ref a1), (2, .ref a2), (3, .ref a3), (4, .int i4)]) [0, 1, 2, 3, 4] rfl ?_
                    exact gl_553 hl hc hk a1 a2 a3 i4 h hf
                  · rw [if_neg q9] at hf
                    by_cases q10 : (x1 &&& (31 : Int32)) = (8 : Int32)
                    · rw [if_pos q10] at hf
                      refine go_tableIn 621 d_Law_law_39 (by rw [q10]; decide) (by rw [q10]; decide) (by rw [q10]; rfl) (by decide) ?_
                      refine go_sub (lv' := [(0, .retAddr 1), (1, .ref a1), (2, .ref a2), (3, .ref a3), (4, .int i4)]) [0, 1, 2, 3, 4] rfl ?_
                      exact gl_621 hl hc hk a1 a2 a3 i4 h hf
                    · rw [if_neg q10] at hf
                      by_cases q11 : (x1 &&& (31 : Int32)) = (9 : Int32)
                      · rw [if_pos q11] at hf
                        refine go_tableIn 689 d_Law_law_39 (by rw [q11]; decide) (by rw [q11]; decide) (by rw [q11]; rfl) (by decide) ?_
                        refine go_sub (lv' := [(0, .retAddr 1), (1, .ref a1), (2, .ref a2), (3, .ref a3), (4, .int i4)]) [0, 1, 2, 3, 4] rfl ?_
                        exact gl_689 hl hc hk a1 a2 a3 i4 h hf
                      · rw [if_neg q11] at hf
                        by_cases q12 : (x1 &&& (31 : Int32)) = (10 : Int32)
                        · rw [if_pos q12] at hf
                          refine go_tableIn 745 d_Law_law_39 (by rw [q12]; decide) (by rw [q12]; decide) (by rw [q12]; rfl) (by decide) ?_
                          refine go_sub (lv' := [(0, .retAddr 1), (1, .ref a1), (2, .ref a2), (3, .ref a3), (4, .int i4)]) [0, 1, 2, 3, 4] rfl ?_
                          exact gl_745 hl hc hk a1 a2 a3 i4 h hf
                        · rw [if_neg q12] at hf
                          by_cases q13 : (x1 &&& (31 : Int32)) = (11 : Int32)
                          · rw [if_pos q13] at hf
                            refine go_tableIn 801 d_Law_law_39 (by rw [q13]; decide) (by rw [q13]; decide) (by rw [q13]; rfl) (by decide) ?_
                            refine go_sub (lv' := [(0, .retAddr 1), (1, .ref a1), (2, .ref a2), (3, .ref a3), (4, .int i4)]) [0, 1, 2, 3, 4] rfl ?_
                            exact gl_801 hl hc hk a1 a2 a3 i4 h hf
                          · rw [if_neg q13] at hf
                            by_cases q14 : (x1 &&& (31 : Int32)) = (12 : Int32)
                            · rw [if_pos q14] at hf
                              refine go_tableIn 869 d_Law_law_39 (by rw [q14]; decide) (by rw [q14]; decide) (by rw [q14]; rfl) (by decide) ?_
                              refine go_sub (lv' := [(0, .retAddr 1), (1, .ref a1), (2, .ref a2), (3, .ref a3), (4, .int i4)]) [0, 1, 2, 3, 4] rfl ?_
                              exact gl_869 hl hc hk a1 a2 a3 i4 h hf
                            · rw [if_neg q14] at hf
                              by_cases q15 : (x1 &&& (31 : Int32)) = (13 : Int32)
                              · rw [if_pos q15] at hf
                                refine go_tableIn 925 d_Law_law_39 (by rw [q15]; decide) (by rw [q15]; decide) (by rw [q15]; rfl) (by decide) ?_
                                refine go_sub (lv' := [(0, .retAddr 1), (1, .ref a1), (2, .ref a2), (3, .ref a3), (4, .int i4)]) [0, 1, 2, 3, 4] rfl ?_
                                exact gl_925 hl hc hk a1 a2 a3 i4 h hf
                              · rw [if_neg q15] at hf
                                by_cases q16 : (x1 &&& (31 : Int32)) = (14 : Int32)
                                · rw [if_pos q16] at hf
                                  refine go_tableIn 938 d_Law_law_39 (by rw [q16]; decide) (by rw [q16]; decide) (by rw [q16]; rfl) (by decide) ?_
                                  refine go_sub (lv' := [(0, .retAddr 1), (1, .ref a1), (2, .ref a2), (3, .ref a3), (4, .int i4)]) [0, 1, 2, 3, 4] rfl ?_
                                  exact gl_938 hl hc hk a1 a2 a3 i4 h hf
                                · rw [if_neg q16] at hf
                                  by_cases q17 : (x1 &&& (31 : Int32)) = (15 : Int32)
                                  · rw [if_pos q17] at hf
                                    refine go_tableIn 951 d_Law_law_39 (by rw [q17]; decide) (by rw [q17]; decide) (by rw [q17]; rfl) (by decide) ?_
                                    refine go_sub (lv' := [(0, .retAddr 1), (1, .ref a1), (2, .ref a2), (3, .ref a3), (4, .int i4)]) [0, 1, 2, 3, 4] rfl ?_
                                    exact gl_951 hl hc hk a1 a2 a3 i4 h hf
                                  · rw [if_neg q17] at hf
                                    by_cases q18 : (x1 &&& (31 : Int32)) = (16 : Int32)
                                    · rw [if_pos q18] at hf
                                      refine go_tableIn 964 d_Law_law_39 (by rw [q18]; decide) (by rw [q18]; decide) (by rw [q18]; rfl) (by decide) ?_
                                      refine go_sub (lv' := [(0, .retAddr 1), (1, .ref a1), (2, .ref a2), (3, .ref a3), (4, .int i4)]) [0, 1, 2, 3, 4] rfl ?_
                                      exact gl_964 hl hc hk a1 a2 a3 i4 h hf
                                    · rw [if_neg q18] at hf
                                      by_cases q19 : (x1 &&& (31 : Int32)) = (17 : Int32)
                                      · rw [if_pos q19] at hf
                                        refine go_tableIn 1032 d_Law_law_39 (by rw [q19]; decide) (by rw [q19]; decide) (by rw [q19]; rfl) (by decide) ?_
                                        refine go_sub (lv' := [(0, .retAddr 1), (1, .ref a1), (2, .ref a2), (3, .ref a3), (4, .int i4)]) [0, 1, 2, 3, 4] rfl ?_
                                        exact gl_1032 hl hc hk a1 a2 a3 i4 h hf
                                      · rw [if_neg q19] at hf
                                        by_cases q20 : (x1 &&& (31 : Int32)) = (18 : Int32)
                                        · rw [if_pos q20] at hf
                                          refine go_tableIn 1088 d_Law_law_39 (by rw [q20]; decide) (by rw [q20]; decide) (by rw [q20]; rfl) (by decide) ?_
                                          refine go_sub (lv' := [(0, .retAddr 1), (1, .ref a1), (2, .ref a2), (3, .ref a3), (4, .int i4)]) [0, 1, 2, 3, 4] rfl ?_
                                          exact gl_1088 hl hc hk a1 a2 a3 i4 h hf
                                        · rw [if_neg q20] at hf
                                          by_cases q21 : (x1 &&& (31 : Int32)) = (19 : Int32)
                                          · rw [if_pos q21] at hf
                                            refine go_tableIn 1144 d_Law_law_39 (by rw [q21]; decide) (by rw [q21]; decide) (by rw [q21]; rfl) (by decide) ?_
                                            refine go_sub (lv' := [(0, .retAddr 1), (1, .ref a1), (2, .ref a2), (3, .ref a3), (4, .int i4)]) [0, 1, 2, 3, 4] rfl ?_
                                            exact gl_1144 hl hc hk a1 a2 a3 i4 h hf
                                          · rw [if_neg q21] at hf
                                            by_cases q22 : (x1 &&& (31 : Int32)) = (20 : Int32)
                                            · rw [if_pos q22] at hf
                                              refine go_tableIn 1157 d_Law_law_39 (by rw [q22]; decide) (by rw [q22]; decide) (by rw [q22]; rfl) (by decide) ?_
                                              refine go_sub (lv' := [(0, .retAddr 1), (1, .ref a1), (2, .ref a2), (3, .ref a3), (4, .int i4)]) [0, 1, 2, 3, 4] rfl ?_
                                              exact gl_1157 hl hc hk a1 a2 a3 i4 h hf
                                            · rw [if_neg q22] at hf
                                              by_cases q23 : (x1 &&& (31 : Int32)) = (21 : Int32)
                                              · rw [if_pos q23] at hf
                                                refine go_tableIn 1213 d_Law_law_39 (by rw [q23]; decide) (by rw [q23]; decide) (by rw [q23]; rfl) (by decide) ?_
                                                refine go_sub (lv' := [(0, .retAddr 1), (1, .ref a1), (2, .ref a2), (3, .ref a3), (4, .int i4)]) [0, 1, 2, 3, 4] rfl ?_
                                                exact gl_1213 hl hc hk a1 a2 a3 i4 h hf
                                              · rw [if_neg q23] at hf
                                                by_cases q24 : (x1 &&& (31 : Int32)) = (22 : Int32)
                                                · rw [if_pos q24] at hf
                                                  refine go_tableIn 1226 d_Law_law_39 (by rw [q24]; decide) (by rw [q24]; decide) (by rw [q24]; rfl) (by decide) ?_
                                                  refine go_sub (lv' := [(0, .retAddr 1), (1, .ref a1), (2, .ref a2), (3, .ref a3), (4, .int i4)]) [0, 1, 2, 3, 4] rfl ?_
                                                  exact gl_1226 hl hc hk a1 a2 a3 i4 h hf
                                                · rw [if_neg q24] at hf
                                                  by_cases q25 : (x1 &&& (31 : Int32)) = (23 : Int32)
                                                  · rw [if_pos q25] at hf
                                                    refine go_tableIn 1301 d_Law_law_39 (by rw [q25]; decide) (by rw [q25]; decide) (by rw [q25]; rfl) (by decide) ?_
                                                    refine go_sub (lv' := [(0, .retAddr 1), (1, .ref a1), (2, .ref a2), (3, .ref a3), (4, .int i4)]) [0, 1, 2, 3, 4] rfl ?_
                                                    exact gl_1301 hl hc hk a1 a2 a3 i4 h hf
                                                  · rw [if_neg q25] at hf
                                                    by_cases q26 : (x1 &&& (31 : Int32)) = (24 : Int32)
                                                    · rw [if_pos q26] at hf
                                                      refine go_tableIn 1314 d_Law_law_39 (by rw [q26]; decide) (by rw [q26]; decide) (by rw [q26]; rfl) (by decide) ?_
                                                      refine go_sub (lv' := [(0, .retAddr 1), (1, .ref a1), (2, .ref a2), (3, .ref a3), (4, .int i4)]) [0, 1, 2, 3, 4] rfl ?_
                                                      exact gl_1314 hl hc hk a1 a2 a3 i4 h hf
                                                    · rw [if_neg q26] at hf
                                                      by_cases q27 : (x1 &&& (31 : Int32)) = (25 : Int32)
                                                      · rw [if_pos q27] at hf
                                                        refine go_tableIn 1370 d_Law_law_39 (by rw [q27]; decide) (by rw [q27]; decide) (by rw [q27]; rfl) (by decide) ?_
                                                        refine go_sub (lv' := [(0, .retAddr 1), (1, .ref a1), (2, .ref a2), (3, .ref a3), (4, .int i4)]) [0, 1, 2, 3, 4] rfl ?_
                                                        exact gl_1370 hl hc hk a1 a2 a3 i4 h hf
                                                      · rw [if_neg q27] at hf
                                                        by_cases q28 : (x1 &&& (31 : Int32)) = (26 : Int32)
                                                        · rw [if_pos q28] at hf
                                                          refine go_tableIn 1383 d_Law_law_39 (by rw [q28]; decide) (by rw [q28]; decide) (by rw [q28]; rfl) (by decide) ?_
                                                          refine go_sub (lv' := [(0, .retAddr 1), (1, .ref a1), (2, .ref a2), (3, .ref a3), (4, .int i4)]) [0, 1, 2, 3, 4] rfl ?_
                                                          exact gl_1383 hl hc hk a1 a2 a3 i4 h hf
                                                        · rw [if_neg q28] at hf
                                                          by_cases q29 : (x1 &&& (31 : Int32)) = (27 : Int32)
                                                          · rw [if_pos q29] at hf
                                                            refine go_tableIn 1396 d_Law_law_39 (by rw [q29]; decide) (by rw [q29]; decide) (by rw [q29]; rfl) (by decide) ?_
                                                            refine go_sub (lv' := [(0, .retAddr 1), (1, .ref a1), (2, .ref a2), (3, .ref a3), (4, .int i4)]) [0, 1, 2, 3, 4] rfl ?_
                                                            exact gl_1396 hl hc hk a1 a2 a3 i4 h hf
                                                          · rw [if_neg q29] at hf
                                                            by_cases q30 : (x1 &&& (31 : Int32)) = (28 : Int32)
                                                            · rw [if_pos q30] at hf
                                                              refine go_tableIn 1440 d_Law_law_39 (by rw [q30]; decide) (by rw [q30]; decide) (by rw [q30]; rfl) (by decide) ?_
                                                              refine go_sub (lv' := [(0, .retAddr 1), (1, .ref a1), (2, .ref a2), (3, .ref a3), (4, .int i4)]) [0, 1, 2, 3, 4] rfl ?_
                                                              exact gl_1440 hl hc hk a1 a2 a3 i4 h hf
                                                            · rw [if_neg q30] at hf
                                                              refine go_tableOut 1454 d_Law_law_39 (by have g0 := ne_ti (0) (0 : Int32) (by decide) q2; have g1 := ne_ti (1) (1 : Int32) (by decide) q3; have g2 := ne_ti (2) (2 : Int32) (by decide) q4; have g3 := ne_ti (3) (3 : Int32) (by decide) q5; have g4 := ne_ti (4) (4 : Int32) (by decide) q6; have g5 := ne_ti (5) (5 : Int32) (by decide) q7; have g6 := ne_ti (6) (6 : Int32) (by decide) q8; have g7 := ne_ti (7) (7 : Int32) (by decide) q9; have g8 := ne_ti (8) (8 : Int32) (by decide) q10; have g9 := ne_ti (9) (9 : Int32) (by decide) q11; have g10 := ne_ti (10) (10 : Int32) (by decide) q12; have g11 := ne_ti (11) (11 : Int32) (by decide) q13; have g12 := ne_ti (12) (12 : Int32) (by decide) q14; have g13 := ne_ti (13) (13 : Int32) (by decide) q15; have g14 := ne_ti (14) (14 : Int32) (by decide) q16; have g15 := ne_ti (15) (15 : Int32) (by decide) q17; have g16 := ne_ti (16) (16 : Int32) (by decide) q18; have g17 := ne_ti (17) (17 : Int32) (by decide) q19; have g18 := ne_ti (18) (18 : Int32) (by decide) q20; have g19 := ne_ti (19) (19 : Int32) (by decide) q21; have g20 := ne_ti (20) (20 : Int32) (by decide) q22; have g21 := ne_ti (21) (21 : Int32) (by decide) q23; have g22 := ne_ti (22) (22 : Int32) (by decide) q24; have g23 := ne_ti (23) (23 : Int32) (by decide) q25; have g24 := ne_ti (24) (24 : Int32) (by decide) q26; have g25 := ne_ti (25) (25 : Int32) (by decide) q27; have g26 := ne_ti (26) (26 : Int32) (by decide) q28; have g27 := ne_ti (27) (27 : Int32) (by decide) q29; have g28 := ne_ti (28) (28 : Int32) (by decide) q30; omega) (by decide) ?_
                                                              refine go_iinc (lv' := [(4, .int (i4 + (4 : Int32))), (0, .retAddr 1), (1, .ref a1), (2, .ref a2), (3, .ref a3)]) 4 (i4 + (4 : Int32)) d_Law_law_1454 rfl rfl rfl (by decide) ?_
                                                              refine go_goto 23 d_Law_law_1457 (by decide) ?_
                                                              refine go_sub (lv' := [(0, .retAddr 1), (1, .ref a1), (2, .ref a2), (3, .ref a3), (4, .int (i4 + (4 : Int32)))]) [1, 2, 3, 4, 0] rfl ?_
                                                              exact hk a1 a2 a3 (i4 + (4 : Int32)) h _ _ _ (by omega) (by omega) hf
theorem t_Law_law_23 {l : Launch} {E : ET} (hl : l.stackTraces = false) {F : Nat} : ∀ (n kc ks x : Nat) (a1 : Nat) (a2 : Nat) (a3 : Nat) (i4 : Int32) (h : PH), kc + n ≤ 601000 ∧ ks + 6 * n ≤ 7290000 → f_Law_law_23 F (eL E) (eX E) n a1 a2 a3 i4 h = some 1 → Go l E m_Law_law room_1 (KI (KLw E)) kc ks h x 23 [(0, .retAddr 1), (1, .ref a1), (2, .ref a2), (3, .ref a3), (4, .int i4)] [] := by
  intro n
  induction n with
  | zero => intro kc ks x a1 a2 a3 i4 h _ hf; cases hf
  | succ n ih =>
    intro kc ks x a1 a2 a3 i4 h hc hf
    exact gl_23 hl ⟨by omega, by omega⟩ (fun b1 b2 b3 b4 hh x9 k9 s9 g1 g2 g3 => ih k9 s9 x9 b1 b2 b3 b4 hh ⟨by omega, by omega⟩ g3) a1 a2 a3 i4 h hf
def f_Law_law (F L : Nat) (xs : Nat → Int32) (h : PH) : Option Int32 :=
  bnd (some (nO h 9)) fun h1 => bnd (f_Np_init F h.1 h1) fun h2 => bnd (some (nO h2 10)) fun h3 => bnd (f_Mo_init F h2.1 h3) fun h4 => bnd (some (newH h4 (oL 1 (fun _ => 0)))) fun h5 => f_Law_law_23 F L xs 600 h.1 h2.1 h4.1 (0 : Int32) h5
theorem g_Law_law_0 {l : Launch} {E : ET} (hl : l.stackTraces = false) {F : Nat} (h : PH) (hf : f_Law_law F (eL E) (eX E) h = some 1) : Go l E m_Law_law room_1 (KI (KLw E)) 0 0 h 0 0 [(0, .retAddr 1)] [] := by
  unfold f_Law_law at hf
  obtain ⟨h1, e_h1, hf⟩ := bnd_x hf
  refine go_new d_Law_law_0 nw_Law_8 ⟨by decide, by decide⟩ ?_
  rw [Option.some.inj e_h1]
  change Go _ _ _ _ _ (1) (13) _ _ _ _ _
  refine go_dup d_Law_law_3 rfl ?_
  obtain ⟨h2, e_h2, hf⟩ := bnd_x hf
  refine go_callC (As := []) (st := [.ref h.1]) (c_Np_init (d := 200) (by omega) e_h2) lk_Law_74 rfl rfl ⟨by decide, by decide⟩ (Nat.le_of_ble_eq_true rfl) ⟨by decide, by decide⟩ d_Law_law_4 ?_
  change Go _ _ _ _ _ (280) (4643) _ _ _ _ _
  refine go_astore_n (lv' := [(1, .ref h.1), (0, .retAddr 1)]) d_Law_law_7 rfl (by decide) ?_
  obtain ⟨h3, e_h3, hf⟩ := bnd_x hf
  refine go_new d_Law_law_8 nw_Law_75 ⟨by decide, by decide⟩ ?_
  rw [Option.some.inj e_h3]
  change Go _ _ _ _ _ (281) (4671) _ _ _ _ _
  refine go_dup d_Law_law_11 rfl ?_
  obtain ⟨h4, e_h4, hf⟩ := bnd_x hf
  refine go_callC (As := []) (st := [.ref h2.1]) (c_Mo_init (d := 200) (by omega) e_h4) lk_Law_77 rfl rfl ⟨by decide, by decide⟩ (Nat.le_of_ble_eq_true rfl) ⟨by decide, by decide⟩ d_Law_law_12 ?_
  change Go _ _ _ _ _ (295) (10265) _ _ _ _ _
  refine go_astore_n (lv' := [(2, .ref h2.1), (1, .ref h.1), (0, .retAddr 1)]) d_Law_law_15 rfl (by decide) ?_
  refine go_iconst (1 : Int32) d_Law_law_16 (by decide) ?_
  obtain ⟨h5, e_h5, hf⟩ := bnd_x hf
  refine go_newaL 1 d_Law_law_17 ac_long (by decide +kernel) ⟨by decide, by decide⟩ ?_
  rw [Option.some.inj e_h5]
  change Go _ _ _ _ _ (296) (10266) _ _ _ _ _
  refine go_astore_n (lv' := [(3, .ref h4.1), (2, .ref h2.1), (1, .ref h.1), (0, .retAddr 1)]) d_Law_law_19 rfl (by decide) ?_
  refine go_iconst (0 : Int32) d_Law_law_20 (by decide) ?_
  refine go_istore (lv' := [(4, .int (0 : Int32)), (3, .ref h4.1), (2, .ref h2.1), (1, .ref h.1), (0, .retAddr 1)]) d_Law_law_21 rfl (by decide) ?_
  refine go_sub (lv' := [(0, .retAddr 1), (1, .ref h.1), (2, .ref h2.1), (3, .ref h4.1), (4, .int (0 : Int32))]) [4, 3, 2, 1, 0] rfl ?_
  exact t_Law_law_23 hl 600 _ _ _ h.1 h2.1 h4.1 (0 : Int32) h5 ⟨by omega, by omega⟩ hf
