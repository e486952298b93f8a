-- ===== end of PART A; then your names; then what follows =====
/-! THE CLAIM OUT OF ONE WALK OF THE LAW'S BODY. Your part is whole_start (and what it stands on); all else here is the same for every law, but numbers. -/
def R_law : String := "RopeKnotsLaw"
def lw_P (b : Addr) (xs : List Int32) (args : Array Value) (s : State) : Prop := args = #[.ref b] ∧ s.IntsAt b xs ∧ xs.length ≤ 2048 ∧ (Jvm.Cond.and given_1 narrow_1).before args s = true
def lw_Q (_ : Array Value) (s : State) (o : Outcome) (t : State) : Prop := o = .returned (some (.int 1)) ∧ Framed s o t [] 600000 7302250
def lw_Z (below : List Frame) (a : Array Value) (s : State) : State → Prop := fun t => ∃ o, t.status = .running ∧ Ended t below o ∧ lw_Q a s o t
/-- the law's own end, with 1 on the stack, nothing written that was there before, its room as the claim has it -/
theorem lw_ret {p : Program} {l : Launch} {e : Env} {s : State} {m : MethodId} {below : List Frame} {meth : Method} {c : Code} {b : Nat} (hx : p.tables.exec = Jvm.exec) (hb : c.code = code) (hr : meth.sig.returnType = ret) (hlocks : meth.locks = false) {pc : Nat} {H : Heap} {ls : Array Slot} (hdg : decode code pc = .ok (.ireturn, 1)) : W p l e room_1 s m #[Value.ref b] below meth c H [] 600000 7302250 (lw_Z below #[Value.ref b] s) (F0 m pc ls [.int 1]) := by
  intro T hT X
  obtain ⟨fs, hret, hrun, hended, hW, hframe⟩ := X.leave (v := some (.int 1)) (hlocks := hlocks) (fun h => by rw [hr] at h; cases h)
  have hmeth' : T.vm.method? m = some meth := X.method'
  refine ⟨T.setFrames fs, ?_, .returned (some (.int 1)), hrun, hended, rfl, ⟨_, rfl⟩, hW, hframe⟩
  jvm_step X.here [X.here.top, hx, hb, hdg, hmeth', hr, ret, narrow_b1]
  (try refine ⟨rfl, ?_⟩); (try refine ⟨rfl, ?_⟩)
  first | (intro acts; rw [hret _ acts rfl rfl rfl]) | rw [hret _ _ rfl rfl rfl]
  exact Steps.refl _
/-- what holds at the law's entry: the machine, the code, the tables' words (any of lw_tbl by 'hts w (by decide +kernel)'), the script of L ints xs at the cell b, what the Statement gives of the start (any of its parts by flat_of_before) -/
def lw_At (p : Program) (s : State) (m : MethodId) (meth : Method) (c : Code) (b L : Nat) (xs : Nat → Int32) : Prop :=
  p.tables.exec = Jvm.exec ∧ c.code = code ∧ meth.sig.returnType = ret ∧ c.maxLocals = 4 ∧ s.vm.findClass R_law = some m.cls ∧ (∀ w ∈ lw_tbl, w.before #[Value.ref b] s = true) ∧ va_X b L xs s s.heap ∧ b < s.heap.size ∧ meth.locks = false ∧ (Jvm.Cond.and given_1 narrow_1).before #[Value.ref b] s = true

theorem dL_0 : decode code 0 = .ok (.new 7, 3) := by decide +kernel
theorem dL_3 : decode code 3 = .ok (.dup, 1) := by decide +kernel
theorem dL_4 : decode code 4 = .ok (.invokespecial 9, 3) := by decide +kernel
theorem dL_7 : decode code 7 = .ok (.astore_n 1, 1) := by decide +kernel
theorem dL_8 : decode code 8 = .ok (.new 10, 3) := by decide +kernel
theorem dL_11 : decode code 11 = .ok (.dup, 1) := by decide +kernel
theorem dL_12 : decode code 12 = .ok (.invokespecial 12, 3) := by decide +kernel
theorem dL_15 : decode code 15 = .ok (.astore_n 2, 1) := by decide +kernel
theorem dL_16 : decode code 16 = .ok (.iconst 0, 1) := by decide +kernel
theorem dL_17 : decode code 17 = .ok (.istore_n 3, 1) := by decide +kernel
theorem dL_18 : decode code 18 = .ok (.iload_n 3, 1) := by decide +kernel
theorem dL_19 : decode code 19 = .ok (.aload_n 0, 1) := by decide +kernel
theorem dL_20 : decode code 20 = .ok (.arraylength, 1) := by decide +kernel
theorem dL_21 : decode code 21 = .ok (.iconst 4, 1) := by decide +kernel
theorem dL_22 : decode code 22 = .ok (.isub, 1) := by decide +kernel
theorem dL_23 : decode code 23 = .ok (.if_icmp .gt 882, 3) := by decide +kernel
theorem dL_26 : decode code 26 = .ok (.aload_n 0, 1) := by decide +kernel
theorem dL_27 : decode code 27 = .ok (.iload_n 3, 1) := by decide +kernel
theorem dL_28 : decode code 28 = .ok (.iaload, 1) := by decide +kernel
theorem dL_29 : decode code 29 = .ok (.bipush 31, 2) := by decide +kernel
theorem dL_31 : decode code 31 = .ok (.iand, 1) := by decide +kernel
theorem dL_32 : decode code 32 = .ok (.tableswitch 867 0 28 #[132, 175, 198, 221, 234, 257, 290, 303, 336, 369, 392, 417, 430, 479, 492, 505, 518, 551, 584, 607, 630, 663, 696, 729, 762, 785, 818, 831, 844], 132) := by decide +kernel
theorem dL_164 : decode code 164 = .ok (.aload_n 1, 1) := by decide +kernel
theorem dL_165 : decode code 165 = .ok (.aload_n 0, 1) := by decide +kernel
theorem dL_166 : decode code 166 = .ok (.iload_n 3, 1) := by decide +kernel
theorem dL_167 : decode code 167 = .ok (.iconst 1, 1) := by decide +kernel
theorem dL_168 : decode code 168 = .ok (.iadd, 1) := by decide +kernel
theorem dL_169 : decode code 169 = .ok (.iaload, 1) := by decide +kernel
theorem dL_170 : decode code 170 = .ok (.aload_n 0, 1) := by decide +kernel
theorem dL_171 : decode code 171 = .ok (.iload_n 3, 1) := by decide +kernel
theorem dL_172 : decode code 172 = .ok (.iconst 2, 1) := by decide +kernel
theorem dL_173 : decode code 173 = .ok (.iadd, 1) := by decide +kernel
theorem dL_174 : decode code 174 = .ok (.iaload, 1) := by decide +kernel
theorem dL_175 : decode code 175 = .ok (.aload_n 0, 1) := by decide +kernel
theorem dL_176 : decode code 176 = .ok (.iload_n 3, 1) := by decide +kernel
theorem dL_177 : decode code 177 = .ok (.iconst 3, 1) := by decide +kernel
theorem dL_178 : decode code 178 = .ok (.iadd, 1) := by decide +kernel
theorem dL_179 : decode code 179 = .ok (.iaload, 1) := by decide +kernel
theorem dL_180 : decode code 180 = .ok (.invokevirtual 13, 3) := by decide +kernel
theorem dL_183 : decode code 183 = .ok (.aload_n 2, 1) := by decide +kernel
theorem dL_184 : decode code 184 = .ok (.aload_n 0, 1) := by decide +kernel
theorem dL_185 : decode code 185 = .ok (.iload_n 3, 1) := by decide +kernel
theorem dL_186 : decode code 186 = .ok (.iconst 1, 1) := by decide +kernel
theorem dL_187 : decode code 187 = .ok (.iadd, 1) := by decide +kernel
theorem dL_188 : decode code 188 = .ok (.iaload, 1) := by decide +kernel
theorem dL_189 : decode code 189 = .ok (.aload_n 0, 1) := by decide +kernel
theorem dL_190 : decode code 190 = .ok (.iload_n 3, 1) := by decide +kernel
theorem dL_191 : decode code 191 = .ok (.iconst 2, 1) := by decide +kernel
theorem dL_192 : decode code 192 = .ok (.iadd, 1) := by decide +kernel
theorem dL_193 : decode code 193 = .ok (.iaload, 1) := by decide +kernel
theorem dL_194 : decode code 194 = .ok (.aload_n 0, 1) := by decide +kernel
theorem dL_195 : decode code 195 = .ok (.iload_n 3, 1) := by decide +kernel
theorem dL_196 : decode code 196 = .ok (.iconst 3, 1) := by decide +kernel
theorem dL_197 : decode code 197 = .ok (.iadd, 1) := by decide +kernel
theorem dL_198 : decode code 198 = .ok (.iaload, 1) := by decide +kernel
theorem dL_199 : decode code 199 = .ok (.invokevirtual 17, 3) := by decide +kernel
theorem dL_202 : decode code 202 = .ok (.if_icmp .eq 697, 3) := by decide +kernel
theorem dL_205 : decode code 205 = .ok (.iconst 0, 1) := by decide +kernel
theorem dL_206 : decode code 206 = .ok (.ireturn, 1) := by decide +kernel
theorem dL_207 : decode code 207 = .ok (.aload_n 1, 1) := by decide +kernel
theorem dL_208 : decode code 208 = .ok (.aload_n 0, 1) := by decide +kernel
theorem dL_209 : decode code 209 = .ok (.iload_n 3, 1) := by decide +kernel
theorem dL_210 : decode code 210 = .ok (.iconst 1, 1) := by decide +kernel
theorem dL_211 : decode code 211 = .ok (.iadd, 1) := by decide +kernel
theorem dL_212 : decode code 212 = .ok (.iaload, 1) := by decide +kernel
theorem dL_213 : decode code 213 = .ok (.invokevirtual 18, 3) := by decide +kernel
theorem dL_216 : decode code 216 = .ok (.aload_n 2, 1) := by decide +kernel
theorem dL_217 : decode code 217 = .ok (.aload_n 0, 1) := by decide +kernel
theorem dL_218 : decode code 218 = .ok (.iload_n 3, 1) := by decide +kernel
theorem dL_219 : decode code 219 = .ok (.iconst 1, 1) := by decide +kernel
theorem dL_220 : decode code 220 = .ok (.iadd, 1) := by decide +kernel
theorem dL_221 : decode code 221 = .ok (.iaload, 1) := by decide +kernel
theorem dL_222 : decode code 222 = .ok (.invokevirtual 22, 3) := by decide +kernel
theorem dL_225 : decode code 225 = .ok (.if_icmp .eq 674, 3) := by decide +kernel
theorem dL_228 : decode code 228 = .ok (.iconst 0, 1) := by decide +kernel
theorem dL_229 : decode code 229 = .ok (.ireturn, 1) := by decide +kernel
theorem dL_230 : decode code 230 = .ok (.aload_n 1, 1) := by decide +kernel
theorem dL_231 : decode code 231 = .ok (.aload_n 0, 1) := by decide +kernel
theorem dL_232 : decode code 232 = .ok (.iload_n 3, 1) := by decide +kernel
theorem dL_233 : decode code 233 = .ok (.iconst 1, 1) := by decide +kernel
theorem dL_234 : decode code 234 = .ok (.iadd, 1) := by decide +kernel
theorem dL_235 : decode code 235 = .ok (.iaload, 1) := by decide +kernel
theorem dL_236 : decode code 236 = .ok (.invokevirtual 23, 3) := by decide +kernel
theorem dL_239 : decode code 239 = .ok (.aload_n 2, 1) := by decide +kernel
theorem dL_240 : decode code 240 = .ok (.aload_n 0, 1) := by decide +kernel
theorem dL_241 : decode code 241 = .ok (.iload_n 3, 1) := by decide +kernel
theorem dL_242 : decode code 242 = .ok (.iconst 1, 1) := by decide +kernel
theorem dL_243 : decode code 243 = .ok (.iadd, 1) := by decide +kernel
theorem dL_244 : decode code 244 = .ok (.iaload, 1) := by decide +kernel
theorem dL_245 : decode code 245 = .ok (.invokevirtual 26, 3) := by decide +kernel
theorem dL_248 : decode code 248 = .ok (.if_icmp .eq 651, 3) := by decide +kernel
theorem dL_251 : decode code 251 = .ok (.iconst 0, 1) := by decide +kernel
theorem dL_252 : decode code 252 = .ok (.ireturn, 1) := by decide +kernel
theorem dL_253 : decode code 253 = .ok (.aload_n 1, 1) := by decide +kernel
theorem dL_254 : decode code 254 = .ok (.invokevirtual 27, 3) := by decide +kernel
theorem dL_257 : decode code 257 = .ok (.aload_n 2, 1) := by decide +kernel
theorem dL_258 : decode code 258 = .ok (.invokevirtual 31, 3) := by decide +kernel
theorem dL_261 : decode code 261 = .ok (.if_icmp .eq 638, 3) := by decide +kernel
theorem dL_264 : decode code 264 = .ok (.iconst 0, 1) := by decide +kernel
theorem dL_265 : decode code 265 = .ok (.ireturn, 1) := by decide +kernel
theorem dL_266 : decode code 266 = .ok (.aload_n 1, 1) := by decide +kernel
theorem dL_267 : decode code 267 = .ok (.aload_n 0, 1) := by decide +kernel
theorem dL_268 : decode code 268 = .ok (.iload_n 3, 1) := by decide +kernel
theorem dL_269 : decode code 269 = .ok (.iconst 1, 1) := by decide +kernel
theorem dL_270 : decode code 270 = .ok (.iadd, 1) := by decide +kernel
theorem dL_271 : decode code 271 = .ok (.iaload, 1) := by decide +kernel
theorem dL_272 : decode code 272 = .ok (.invokevirtual 32, 3) := by decide +kernel
theorem dL_275 : decode code 275 = .ok (.aload_n 2, 1) := by decide +kernel
theorem dL_276 : decode code 276 = .ok (.aload_n 0, 1) := by decide +kernel
theorem dL_277 : decode code 277 = .ok (.iload_n 3, 1) := by decide +kernel
theorem dL_278 : decode code 278 = .ok (.iconst 1, 1) := by decide +kernel
theorem dL_279 : decode code 279 = .ok (.iadd, 1) := by decide +kernel
theorem dL_280 : decode code 280 = .ok (.iaload, 1) := by decide +kernel
theorem dL_281 : decode code 281 = .ok (.invokevirtual 35, 3) := by decide +kernel
theorem dL_284 : decode code 284 = .ok (.if_icmp .eq 615, 3) := by decide +kernel
theorem dL_287 : decode code 287 = .ok (.iconst 0, 1) := by decide +kernel
theorem dL_288 : decode code 288 = .ok (.ireturn, 1) := by decide +kernel
theorem dL_289 : decode code 289 = .ok (.aload_n 1, 1) := by decide +kernel
theorem dL_290 : decode code 290 = .ok (.aload_n 0, 1) := by decide +kernel
theorem dL_291 : decode code 291 = .ok (.iload_n 3, 1) := by decide +kernel
theorem dL_292 : decode code 292 = .ok (.iconst 1, 1) := by decide +kernel
theorem dL_293 : decode code 293 = .ok (.iadd, 1) := by decide +kernel
theorem dL_294 : decode code 294 = .ok (.iaload, 1) := by decide +kernel
theorem dL_295 : decode code 295 = .ok (.aload_n 0, 1) := by decide +kernel
theorem dL_296 : decode code 296 = .ok (.iload_n 3, 1) := by decide +kernel
theorem dL_297 : decode code 297 = .ok (.iconst 2, 1) := by decide +kernel
theorem dL_298 : decode code 298 = .ok (.iadd, 1) := by decide +kernel
theorem dL_299 : decode code 299 = .ok (.iaload, 1) := by decide +kernel
theorem dL_300 : decode code 300 = .ok (.invokevirtual 36, 3) := by decide +kernel
theorem dL_303 : decode code 303 = .ok (.aload_n 2, 1) := by decide +kernel
theorem dL_304 : decode code 304 = .ok (.aload_n 0, 1) := by decide +kernel
theorem dL_305 : decode code 305 = .ok (.iload_n 3, 1) := by decide +kernel
theorem dL_306 : decode code 306 = .ok (.iconst 1, 1) := by decide +kernel
theorem dL_307 : decode code 307 = .ok (.iadd, 1) := by decide +kernel
theorem dL_308 : decode code 308 = .ok (.iaload, 1) := by decide +kernel
theorem dL_309 : decode code 309 = .ok (.aload_n 0, 1) := by decide +kernel
theorem dL_310 : decode code 310 = .ok (.iload_n 3, 1) := by decide +kernel
theorem dL_311 : decode code 311 = .ok (.iconst 2, 1) := by decide +kernel
theorem dL_312 : decode code 312 = .ok (.iadd, 1) := by decide +kernel
theorem dL_313 : decode code 313 = .ok (.iaload, 1) := by decide +kernel
theorem dL_314 : decode code 314 = .ok (.invokevirtual 40, 3) := by decide +kernel
theorem dL_317 : decode code 317 = .ok (.if_icmp .eq 582, 3) := by decide +kernel
theorem dL_320 : decode code 320 = .ok (.iconst 0, 1) := by decide +kernel
theorem dL_321 : decode code 321 = .ok (.ireturn, 1) := by decide +kernel
theorem dL_322 : decode code 322 = .ok (.aload_n 1, 1) := by decide +kernel
theorem dL_323 : decode code 323 = .ok (.invokevirtual 41, 3) := by decide +kernel
theorem dL_326 : decode code 326 = .ok (.aload_n 2, 1) := by decide +kernel
theorem dL_327 : decode code 327 = .ok (.invokevirtual 44, 3) := by decide +kernel
theorem dL_330 : decode code 330 = .ok (.if_icmp .eq 569, 3) := by decide +kernel
theorem dL_333 : decode code 333 = .ok (.iconst 0, 1) := by decide +kernel
theorem dL_334 : decode code 334 = .ok (.ireturn, 1) := by decide +kernel
theorem dL_335 : decode code 335 = .ok (.aload_n 1, 1) := by decide +kernel
theorem dL_336 : decode code 336 = .ok (.aload_n 0, 1) := by decide +kernel
theorem dL_337 : decode code 337 = .ok (.iload_n 3, 1) := by decide +kernel
theorem dL_338 : decode code 338 = .ok (.iconst 1, 1) := by decide +kernel
theorem dL_339 : decode code 339 = .ok (.iadd, 1) := by decide +kernel
theorem dL_340 : decode code 340 = .ok (.iaload, 1) := by decide +kernel
theorem dL_341 : decode code 341 = .ok (.aload_n 0, 1) := by decide +kernel
theorem dL_342 : decode code 342 = .ok (.iload_n 3, 1) := by decide +kernel
theorem dL_343 : decode code 343 = .ok (.iconst 2, 1) := by decide +kernel
theorem dL_344 : decode code 344 = .ok (.iadd, 1) := by decide +kernel
theorem dL_345 : decode code 345 = .ok (.iaload, 1) := by decide +kernel
theorem dL_346 : decode code 346 = .ok (.invokevirtual 45, 3) := by decide +kernel
theorem dL_349 : decode code 349 = .ok (.aload_n 2, 1) := by decide +kernel
theorem dL_350 : decode code 350 = .ok (.aload_n 0, 1) := by decide +kernel
theorem dL_351 : decode code 351 = .ok (.iload_n 3, 1) := by decide +kernel
theorem dL_352 : decode code 352 = .ok (.iconst 1, 1) := by decide +kernel
theorem dL_353 : decode code 353 = .ok (.iadd, 1) := by decide +kernel
theorem dL_354 : decode code 354 = .ok (.iaload, 1) := by decide +kernel
theorem dL_355 : decode code 355 = .ok (.aload_n 0, 1) := by decide +kernel
theorem dL_356 : decode code 356 = .ok (.iload_n 3, 1) := by decide +kernel
theorem dL_357 : decode code 357 = .ok (.iconst 2, 1) := by decide +kernel
theorem dL_358 : decode code 358 = .ok (.iadd, 1) := by decide +kernel
theorem dL_359 : decode code 359 = .ok (.iaload, 1) := by decide +kernel
theorem dL_360 : decode code 360 = .ok (.invokevirtual 48, 3) := by decide +kernel
theorem dL_363 : decode code 363 = .ok (.if_icmp .eq 536, 3) := by decide +kernel
theorem dL_366 : decode code 366 = .ok (.iconst 0, 1) := by decide +kernel
theorem dL_367 : decode code 367 = .ok (.ireturn, 1) := by decide +kernel
theorem dL_368 : decode code 368 = .ok (.aload_n 1, 1) := by decide +kernel
theorem dL_369 : decode code 369 = .ok (.aload_n 0, 1) := by decide +kernel
theorem dL_370 : decode code 370 = .ok (.iload_n 3, 1) := by decide +kernel
theorem dL_371 : decode code 371 = .ok (.iconst 1, 1) := by decide +kernel
theorem dL_372 : decode code 372 = .ok (.iadd, 1) := by decide +kernel
theorem dL_373 : decode code 373 = .ok (.iaload, 1) := by decide +kernel
theorem dL_374 : decode code 374 = .ok (.aload_n 0, 1) := by decide +kernel
theorem dL_375 : decode code 375 = .ok (.iload_n 3, 1) := by decide +kernel
theorem dL_376 : decode code 376 = .ok (.iconst 2, 1) := by decide +kernel
theorem dL_377 : decode code 377 = .ok (.iadd, 1) := by decide +kernel
theorem dL_378 : decode code 378 = .ok (.iaload, 1) := by decide +kernel
theorem dL_379 : decode code 379 = .ok (.invokevirtual 49, 3) := by decide +kernel
theorem dL_382 : decode code 382 = .ok (.aload_n 2, 1) := by decide +kernel
theorem dL_383 : decode code 383 = .ok (.aload_n 0, 1) := by decide +kernel
theorem dL_384 : decode code 384 = .ok (.iload_n 3, 1) := by decide +kernel
theorem dL_385 : decode code 385 = .ok (.iconst 1, 1) := by decide +kernel
theorem dL_386 : decode code 386 = .ok (.iadd, 1) := by decide +kernel
theorem dL_387 : decode code 387 = .ok (.iaload, 1) := by decide +kernel
theorem dL_388 : decode code 388 = .ok (.aload_n 0, 1) := by decide +kernel
theorem dL_389 : decode code 389 = .ok (.iload_n 3, 1) := by decide +kernel
theorem dL_390 : decode code 390 = .ok (.iconst 2, 1) := by decide +kernel
theorem dL_391 : decode code 391 = .ok (.iadd, 1) := by decide +kernel
theorem dL_392 : decode code 392 = .ok (.iaload, 1) := by decide +kernel
theorem dL_393 : decode code 393 = .ok (.invokevirtual 52, 3) := by decide +kernel
theorem dL_396 : decode code 396 = .ok (.if_icmp .eq 503, 3) := by decide +kernel
theorem dL_399 : decode code 399 = .ok (.iconst 0, 1) := by decide +kernel
theorem dL_400 : decode code 400 = .ok (.ireturn, 1) := by decide +kernel
theorem dL_401 : decode code 401 = .ok (.aload_n 1, 1) := by decide +kernel
theorem dL_402 : decode code 402 = .ok (.aload_n 0, 1) := by decide +kernel
theorem dL_403 : decode code 403 = .ok (.iload_n 3, 1) := by decide +kernel
theorem dL_404 : decode code 404 = .ok (.iconst 1, 1) := by decide +kernel
theorem dL_405 : decode code 405 = .ok (.iadd, 1) := by decide +kernel
theorem dL_406 : decode code 406 = .ok (.iaload, 1) := by decide +kernel
theorem dL_407 : decode code 407 = .ok (.invokevirtual 53, 3) := by decide +kernel
theorem dL_410 : decode code 410 = .ok (.aload_n 2, 1) := by decide +kernel
theorem dL_411 : decode code 411 = .ok (.aload_n 0, 1) := by decide +kernel
theorem dL_412 : decode code 412 = .ok (.iload_n 3, 1) := by decide +kernel
theorem dL_413 : decode code 413 = .ok (.iconst 1, 1) := by decide +kernel
theorem dL_414 : decode code 414 = .ok (.iadd, 1) := by decide +kernel
theorem dL_415 : decode code 415 = .ok (.iaload, 1) := by decide +kernel
theorem dL_416 : decode code 416 = .ok (.invokevirtual 56, 3) := by decide +kernel
theorem dL_419 : decode code 419 = .ok (.if_icmp .eq 480, 3) := by decide +kernel
theorem dL_422 : decode code 422 = .ok (.iconst 0, 1) := by decide +kernel
theorem dL_423 : decode code 423 = .ok (.ireturn, 1) := by decide +kernel
theorem dL_424 : decode code 424 = .ok (.aload_n 1, 1) := by decide +kernel
theorem dL_425 : decode code 425 = .ok (.aload_n 0, 1) := by decide +kernel
theorem dL_426 : decode code 426 = .ok (.iload_n 3, 1) := by decide +kernel
theorem dL_427 : decode code 427 = .ok (.iconst 1, 1) := by decide +kernel
theorem dL_428 : decode code 428 = .ok (.iadd, 1) := by decide +kernel
theorem dL_429 : decode code 429 = .ok (.iaload, 1) := by decide +kernel
theorem dL_430 : decode code 430 = .ok (.i2c, 1) := by decide +kernel
theorem dL_431 : decode code 431 = .ok (.invokevirtual 57, 3) := by decide +kernel
theorem dL_434 : decode code 434 = .ok (.aload_n 2, 1) := by decide +kernel
theorem dL_435 : decode code 435 = .ok (.aload_n 0, 1) := by decide +kernel
theorem dL_436 : decode code 436 = .ok (.iload_n 3, 1) := by decide +kernel
theorem dL_437 : decode code 437 = .ok (.iconst 1, 1) := by decide +kernel
theorem dL_438 : decode code 438 = .ok (.iadd, 1) := by decide +kernel
theorem dL_439 : decode code 439 = .ok (.iaload, 1) := by decide +kernel
theorem dL_440 : decode code 440 = .ok (.i2c, 1) := by decide +kernel
theorem dL_441 : decode code 441 = .ok (.invokevirtual 61, 3) := by decide +kernel
theorem dL_444 : decode code 444 = .ok (.if_icmp .eq 455, 3) := by decide +kernel
theorem dL_447 : decode code 447 = .ok (.iconst 0, 1) := by decide +kernel
theorem dL_448 : decode code 448 = .ok (.ireturn, 1) := by decide +kernel
theorem dL_449 : decode code 449 = .ok (.aload_n 1, 1) := by decide +kernel
theorem dL_450 : decode code 450 = .ok (.invokevirtual 62, 3) := by decide +kernel
theorem dL_453 : decode code 453 = .ok (.aload_n 2, 1) := by decide +kernel
theorem dL_454 : decode code 454 = .ok (.invokevirtual 65, 3) := by decide +kernel
theorem dL_457 : decode code 457 = .ok (.if_icmp .eq 442, 3) := by decide +kernel
theorem dL_460 : decode code 460 = .ok (.iconst 0, 1) := by decide +kernel
theorem dL_461 : decode code 461 = .ok (.ireturn, 1) := by decide +kernel
theorem dL_462 : decode code 462 = .ok (.aload_n 1, 1) := by decide +kernel
theorem dL_463 : decode code 463 = .ok (.aload_n 0, 1) := by decide +kernel
theorem dL_464 : decode code 464 = .ok (.iload_n 3, 1) := by decide +kernel
theorem dL_465 : decode code 465 = .ok (.iconst 1, 1) := by decide +kernel
theorem dL_466 : decode code 466 = .ok (.iadd, 1) := by decide +kernel
theorem dL_467 : decode code 467 = .ok (.iaload, 1) := by decide +kernel
theorem dL_468 : decode code 468 = .ok (.ifCond .eq 7, 3) := by decide +kernel
theorem dL_471 : decode code 471 = .ok (.iconst 1, 1) := by decide +kernel
theorem dL_472 : decode code 472 = .ok (.goto 4, 3) := by decide +kernel
theorem dL_475 : decode code 475 = .ok (.iconst 0, 1) := by decide +kernel
theorem dL_476 : decode code 476 = .ok (.aload_n 0, 1) := by decide +kernel
theorem dL_477 : decode code 477 = .ok (.iload_n 3, 1) := by decide +kernel
theorem dL_478 : decode code 478 = .ok (.iconst 2, 1) := by decide +kernel
theorem dL_479 : decode code 479 = .ok (.iadd, 1) := by decide +kernel
theorem dL_480 : decode code 480 = .ok (.iaload, 1) := by decide +kernel
theorem dL_481 : decode code 481 = .ok (.invokevirtual 66, 3) := by decide +kernel
theorem dL_484 : decode code 484 = .ok (.aload_n 2, 1) := by decide +kernel
theorem dL_485 : decode code 485 = .ok (.aload_n 0, 1) := by decide +kernel
theorem dL_486 : decode code 486 = .ok (.iload_n 3, 1) := by decide +kernel
theorem dL_487 : decode code 487 = .ok (.iconst 1, 1) := by decide +kernel
theorem dL_488 : decode code 488 = .ok (.iadd, 1) := by decide +kernel
theorem dL_489 : decode code 489 = .ok (.iaload, 1) := by decide +kernel
theorem dL_490 : decode code 490 = .ok (.ifCond .eq 7, 3) := by decide +kernel
theorem dL_493 : decode code 493 = .ok (.iconst 1, 1) := by decide +kernel
theorem dL_494 : decode code 494 = .ok (.goto 4, 3) := by decide +kernel
theorem dL_497 : decode code 497 = .ok (.iconst 0, 1) := by decide +kernel
theorem dL_498 : decode code 498 = .ok (.aload_n 0, 1) := by decide +kernel
theorem dL_499 : decode code 499 = .ok (.iload_n 3, 1) := by decide +kernel
theorem dL_500 : decode code 500 = .ok (.iconst 2, 1) := by decide +kernel
theorem dL_501 : decode code 501 = .ok (.iadd, 1) := by decide +kernel
theorem dL_502 : decode code 502 = .ok (.iaload, 1) := by decide +kernel
theorem dL_503 : decode code 503 = .ok (.invokevirtual 70, 3) := by decide +kernel
theorem dL_506 : decode code 506 = .ok (.if_icmp .eq 393, 3) := by decide +kernel
theorem dL_509 : decode code 509 = .ok (.iconst 0, 1) := by decide +kernel
theorem dL_510 : decode code 510 = .ok (.ireturn, 1) := by decide +kernel
theorem dL_511 : decode code 511 = .ok (.aload_n 1, 1) := by decide +kernel
theorem dL_512 : decode code 512 = .ok (.invokevirtual 71, 3) := by decide +kernel
theorem dL_515 : decode code 515 = .ok (.aload_n 2, 1) := by decide +kernel
theorem dL_516 : decode code 516 = .ok (.invokevirtual 74, 3) := by decide +kernel
theorem dL_519 : decode code 519 = .ok (.if_icmp .eq 380, 3) := by decide +kernel
theorem dL_522 : decode code 522 = .ok (.iconst 0, 1) := by decide +kernel
theorem dL_523 : decode code 523 = .ok (.ireturn, 1) := by decide +kernel
theorem dL_524 : decode code 524 = .ok (.aload_n 1, 1) := by decide +kernel
theorem dL_525 : decode code 525 = .ok (.invokevirtual 75, 3) := by decide +kernel
theorem dL_528 : decode code 528 = .ok (.aload_n 2, 1) := by decide +kernel
theorem dL_529 : decode code 529 = .ok (.invokevirtual 78, 3) := by decide +kernel
theorem dL_532 : decode code 532 = .ok (.if_icmp .eq 367, 3) := by decide +kernel
theorem dL_535 : decode code 535 = .ok (.iconst 0, 1) := by decide +kernel
theorem dL_536 : decode code 536 = .ok (.ireturn, 1) := by decide +kernel
theorem dL_537 : decode code 537 = .ok (.aload_n 1, 1) := by decide +kernel
theorem dL_538 : decode code 538 = .ok (.invokevirtual 79, 3) := by decide +kernel
theorem dL_541 : decode code 541 = .ok (.aload_n 2, 1) := by decide +kernel
theorem dL_542 : decode code 542 = .ok (.invokevirtual 82, 3) := by decide +kernel
theorem dL_545 : decode code 545 = .ok (.if_icmp .eq 354, 3) := by decide +kernel
theorem dL_548 : decode code 548 = .ok (.iconst 0, 1) := by decide +kernel
theorem dL_549 : decode code 549 = .ok (.ireturn, 1) := by decide +kernel
theorem dL_550 : decode code 550 = .ok (.aload_n 1, 1) := by decide +kernel
theorem dL_551 : decode code 551 = .ok (.aload_n 0, 1) := by decide +kernel
theorem dL_552 : decode code 552 = .ok (.iload_n 3, 1) := by decide +kernel
theorem dL_553 : decode code 553 = .ok (.iconst 1, 1) := by decide +kernel
theorem dL_554 : decode code 554 = .ok (.iadd, 1) := by decide +kernel
theorem dL_555 : decode code 555 = .ok (.iaload, 1) := by decide +kernel
theorem dL_556 : decode code 556 = .ok (.aload_n 0, 1) := by decide +kernel
theorem dL_557 : decode code 557 = .ok (.iload_n 3, 1) := by decide +kernel
theorem dL_558 : decode code 558 = .ok (.iconst 2, 1) := by decide +kernel
theorem dL_559 : decode code 559 = .ok (.iadd, 1) := by decide +kernel
theorem dL_560 : decode code 560 = .ok (.iaload, 1) := by decide +kernel
theorem dL_561 : decode code 561 = .ok (.invokevirtual 83, 3) := by decide +kernel
theorem dL_564 : decode code 564 = .ok (.aload_n 2, 1) := by decide +kernel
theorem dL_565 : decode code 565 = .ok (.aload_n 0, 1) := by decide +kernel
theorem dL_566 : decode code 566 = .ok (.iload_n 3, 1) := by decide +kernel
theorem dL_567 : decode code 567 = .ok (.iconst 1, 1) := by decide +kernel
theorem dL_568 : decode code 568 = .ok (.iadd, 1) := by decide +kernel
theorem dL_569 : decode code 569 = .ok (.iaload, 1) := by decide +kernel
theorem dL_570 : decode code 570 = .ok (.aload_n 0, 1) := by decide +kernel
theorem dL_571 : decode code 571 = .ok (.iload_n 3, 1) := by decide +kernel
theorem dL_572 : decode code 572 = .ok (.iconst 2, 1) := by decide +kernel
theorem dL_573 : decode code 573 = .ok (.iadd, 1) := by decide +kernel
theorem dL_574 : decode code 574 = .ok (.iaload, 1) := by decide +kernel
theorem dL_575 : decode code 575 = .ok (.invokevirtual 86, 3) := by decide +kernel
theorem dL_578 : decode code 578 = .ok (.if_icmp .eq 321, 3) := by decide +kernel
theorem dL_581 : decode code 581 = .ok (.iconst 0, 1) := by decide +kernel
theorem dL_582 : decode code 582 = .ok (.ireturn, 1) := by decide +kernel
theorem dL_583 : decode code 583 = .ok (.aload_n 1, 1) := by decide +kernel
theorem dL_584 : decode code 584 = .ok (.aload_n 0, 1) := by decide +kernel
theorem dL_585 : decode code 585 = .ok (.iload_n 3, 1) := by decide +kernel
theorem dL_586 : decode code 586 = .ok (.iconst 1, 1) := by decide +kernel
theorem dL_587 : decode code 587 = .ok (.iadd, 1) := by decide +kernel
theorem dL_588 : decode code 588 = .ok (.iaload, 1) := by decide +kernel
theorem dL_589 : decode code 589 = .ok (.aload_n 0, 1) := by decide +kernel
theorem dL_590 : decode code 590 = .ok (.iload_n 3, 1) := by decide +kernel
theorem dL_591 : decode code 591 = .ok (.iconst 2, 1) := by decide +kernel
theorem dL_592 : decode code 592 = .ok (.iadd, 1) := by decide +kernel
theorem dL_593 : decode code 593 = .ok (.iaload, 1) := by decide +kernel
theorem dL_594 : decode code 594 = .ok (.invokevirtual 87, 3) := by decide +kernel
theorem dL_597 : decode code 597 = .ok (.aload_n 2, 1) := by decide +kernel
theorem dL_598 : decode code 598 = .ok (.aload_n 0, 1) := by decide +kernel
theorem dL_599 : decode code 599 = .ok (.iload_n 3, 1) := by decide +kernel
theorem dL_600 : decode code 600 = .ok (.iconst 1, 1) := by decide +kernel
theorem dL_601 : decode code 601 = .ok (.iadd, 1) := by decide +kernel
theorem dL_602 : decode code 602 = .ok (.iaload, 1) := by decide +kernel
theorem dL_603 : decode code 603 = .ok (.aload_n 0, 1) := by decide +kernel
theorem dL_604 : decode code 604 = .ok (.iload_n 3, 1) := by decide +kernel
theorem dL_605 : decode code 605 = .ok (.iconst 2, 1) := by decide +kernel
theorem dL_606 : decode code 606 = .ok (.iadd, 1) := by decide +kernel
theorem dL_607 : decode code 607 = .ok (.iaload, 1) := by decide +kernel
theorem dL_608 : decode code 608 = .ok (.invokevirtual 90, 3) := by decide +kernel
theorem dL_611 : decode code 611 = .ok (.if_icmp .eq 288, 3) := by decide +kernel
theorem dL_614 : decode code 614 = .ok (.iconst 0, 1) := by decide +kernel
theorem dL_615 : decode code 615 = .ok (.ireturn, 1) := by decide +kernel
theorem dL_616 : decode code 616 = .ok (.aload_n 1, 1) := by decide +kernel
theorem dL_617 : decode code 617 = .ok (.aload_n 0, 1) := by decide +kernel
theorem dL_618 : decode code 618 = .ok (.iload_n 3, 1) := by decide +kernel
theorem dL_619 : decode code 619 = .ok (.iconst 1, 1) := by decide +kernel
theorem dL_620 : decode code 620 = .ok (.iadd, 1) := by decide +kernel
theorem dL_621 : decode code 621 = .ok (.iaload, 1) := by decide +kernel
theorem dL_622 : decode code 622 = .ok (.invokevirtual 91, 3) := by decide +kernel
theorem dL_625 : decode code 625 = .ok (.aload_n 2, 1) := by decide +kernel
theorem dL_626 : decode code 626 = .ok (.aload_n 0, 1) := by decide +kernel
theorem dL_627 : decode code 627 = .ok (.iload_n 3, 1) := by decide +kernel
theorem dL_628 : decode code 628 = .ok (.iconst 1, 1) := by decide +kernel
theorem dL_629 : decode code 629 = .ok (.iadd, 1) := by decide +kernel
theorem dL_630 : decode code 630 = .ok (.iaload, 1) := by decide +kernel
theorem dL_631 : decode code 631 = .ok (.invokevirtual 94, 3) := by decide +kernel
theorem dL_634 : decode code 634 = .ok (.if_icmp .eq 265, 3) := by decide +kernel
theorem dL_637 : decode code 637 = .ok (.iconst 0, 1) := by decide +kernel
theorem dL_638 : decode code 638 = .ok (.ireturn, 1) := by decide +kernel
theorem dL_639 : decode code 639 = .ok (.aload_n 1, 1) := by decide +kernel
theorem dL_640 : decode code 640 = .ok (.aload_n 0, 1) := by decide +kernel
theorem dL_641 : decode code 641 = .ok (.iload_n 3, 1) := by decide +kernel
theorem dL_642 : decode code 642 = .ok (.iconst 1, 1) := by decide +kernel
theorem dL_643 : decode code 643 = .ok (.iadd, 1) := by decide +kernel
theorem dL_644 : decode code 644 = .ok (.iaload, 1) := by decide +kernel
theorem dL_645 : decode code 645 = .ok (.invokevirtual 95, 3) := by decide +kernel
theorem dL_648 : decode code 648 = .ok (.aload_n 2, 1) := by decide +kernel
theorem dL_649 : decode code 649 = .ok (.aload_n 0, 1) := by decide +kernel
theorem dL_650 : decode code 650 = .ok (.iload_n 3, 1) := by decide +kernel
theorem dL_651 : decode code 651 = .ok (.iconst 1, 1) := by decide +kernel
theorem dL_652 : decode code 652 = .ok (.iadd, 1) := by decide +kernel
theorem dL_653 : decode code 653 = .ok (.iaload, 1) := by decide +kernel
theorem dL_654 : decode code 654 = .ok (.invokevirtual 98, 3) := by decide +kernel
theorem dL_657 : decode code 657 = .ok (.if_icmp .eq 242, 3) := by decide +kernel
theorem dL_660 : decode code 660 = .ok (.iconst 0, 1) := by decide +kernel
theorem dL_661 : decode code 661 = .ok (.ireturn, 1) := by decide +kernel
theorem dL_662 : decode code 662 = .ok (.aload_n 1, 1) := by decide +kernel
theorem dL_663 : decode code 663 = .ok (.aload_n 0, 1) := by decide +kernel
theorem dL_664 : decode code 664 = .ok (.iload_n 3, 1) := by decide +kernel
theorem dL_665 : decode code 665 = .ok (.iconst 1, 1) := by decide +kernel
theorem dL_666 : decode code 666 = .ok (.iadd, 1) := by decide +kernel
theorem dL_667 : decode code 667 = .ok (.iaload, 1) := by decide +kernel
theorem dL_668 : decode code 668 = .ok (.aload_n 0, 1) := by decide +kernel
theorem dL_669 : decode code 669 = .ok (.iload_n 3, 1) := by decide +kernel
theorem dL_670 : decode code 670 = .ok (.iconst 2, 1) := by decide +kernel
theorem dL_671 : decode code 671 = .ok (.iadd, 1) := by decide +kernel
theorem dL_672 : decode code 672 = .ok (.iaload, 1) := by decide +kernel
theorem dL_673 : decode code 673 = .ok (.invokevirtual 99, 3) := by decide +kernel
theorem dL_676 : decode code 676 = .ok (.aload_n 2, 1) := by decide +kernel
theorem dL_677 : decode code 677 = .ok (.aload_n 0, 1) := by decide +kernel
theorem dL_678 : decode code 678 = .ok (.iload_n 3, 1) := by decide +kernel
theorem dL_679 : decode code 679 = .ok (.iconst 1, 1) := by decide +kernel
theorem dL_680 : decode code 680 = .ok (.iadd, 1) := by decide +kernel
theorem dL_681 : decode code 681 = .ok (.iaload, 1) := by decide +kernel
theorem dL_682 : decode code 682 = .ok (.aload_n 0, 1) := by decide +kernel
theorem dL_683 : decode code 683 = .ok (.iload_n 3, 1) := by decide +kernel
theorem dL_684 : decode code 684 = .ok (.iconst 2, 1) := by decide +kernel
theorem dL_685 : decode code 685 = .ok (.iadd, 1) := by decide +kernel
theorem dL_686 : decode code 686 = .ok (.iaload, 1) := by decide +kernel
theorem dL_687 : decode code 687 = .ok (.invokevirtual 102, 3) := by decide +kernel
theorem dL_690 : decode code 690 = .ok (.if_icmp .eq 209, 3) := by decide +kernel
theorem dL_693 : decode code 693 = .ok (.iconst 0, 1) := by decide +kernel
theorem dL_694 : decode code 694 = .ok (.ireturn, 1) := by decide +kernel
theorem dL_695 : decode code 695 = .ok (.aload_n 1, 1) := by decide +kernel
theorem dL_696 : decode code 696 = .ok (.aload_n 0, 1) := by decide +kernel
theorem dL_697 : decode code 697 = .ok (.iload_n 3, 1) := by decide +kernel
theorem dL_698 : decode code 698 = .ok (.iconst 1, 1) := by decide +kernel
theorem dL_699 : decode code 699 = .ok (.iadd, 1) := by decide +kernel
theorem dL_700 : decode code 700 = .ok (.iaload, 1) := by decide +kernel
theorem dL_701 : decode code 701 = .ok (.aload_n 0, 1) := by decide +kernel
theorem dL_702 : decode code 702 = .ok (.iload_n 3, 1) := by decide +kernel
theorem dL_703 : decode code 703 = .ok (.iconst 2, 1) := by decide +kernel
theorem dL_704 : decode code 704 = .ok (.iadd, 1) := by decide +kernel
theorem dL_705 : decode code 705 = .ok (.iaload, 1) := by decide +kernel
theorem dL_706 : decode code 706 = .ok (.invokevirtual 103, 3) := by decide +kernel
theorem dL_709 : decode code 709 = .ok (.aload_n 2, 1) := by decide +kernel
theorem dL_710 : decode code 710 = .ok (.aload_n 0, 1) := by decide +kernel
theorem dL_711 : decode code 711 = .ok (.iload_n 3, 1) := by decide +kernel
theorem dL_712 : decode code 712 = .ok (.iconst 1, 1) := by decide +kernel
theorem dL_713 : decode code 713 = .ok (.iadd, 1) := by decide +kernel
theorem dL_714 : decode code 714 = .ok (.iaload, 1) := by decide +kernel
theorem dL_715 : decode code 715 = .ok (.aload_n 0, 1) := by decide +kernel
theorem dL_716 : decode code 716 = .ok (.iload_n 3, 1) := by decide +kernel
theorem dL_717 : decode code 717 = .ok (.iconst 2, 1) := by decide +kernel
theorem dL_718 : decode code 718 = .ok (.iadd, 1) := by decide +kernel
theorem dL_719 : decode code 719 = .ok (.iaload, 1) := by decide +kernel
theorem dL_720 : decode code 720 = .ok (.invokevirtual 106, 3) := by decide +kernel
theorem dL_723 : decode code 723 = .ok (.if_icmp .eq 176, 3) := by decide +kernel
theorem dL_726 : decode code 726 = .ok (.iconst 0, 1) := by decide +kernel
theorem dL_727 : decode code 727 = .ok (.ireturn, 1) := by decide +kernel
theorem dL_728 : decode code 728 = .ok (.aload_n 1, 1) := by decide +kernel
theorem dL_729 : decode code 729 = .ok (.aload_n 0, 1) := by decide +kernel
theorem dL_730 : decode code 730 = .ok (.iload_n 3, 1) := by decide +kernel
theorem dL_731 : decode code 731 = .ok (.iconst 1, 1) := by decide +kernel
theorem dL_732 : decode code 732 = .ok (.iadd, 1) := by decide +kernel
theorem dL_733 : decode code 733 = .ok (.iaload, 1) := by decide +kernel
theorem dL_734 : decode code 734 = .ok (.aload_n 0, 1) := by decide +kernel
theorem dL_735 : decode code 735 = .ok (.iload_n 3, 1) := by decide +kernel
theorem dL_736 : decode code 736 = .ok (.iconst 2, 1) := by decide +kernel
theorem dL_737 : decode code 737 = .ok (.iadd, 1) := by decide +kernel
theorem dL_738 : decode code 738 = .ok (.iaload, 1) := by decide +kernel
theorem dL_739 : decode code 739 = .ok (.invokevirtual 107, 3) := by decide +kernel
theorem dL_742 : decode code 742 = .ok (.aload_n 2, 1) := by decide +kernel
theorem dL_743 : decode code 743 = .ok (.aload_n 0, 1) := by decide +kernel
theorem dL_744 : decode code 744 = .ok (.iload_n 3, 1) := by decide +kernel
theorem dL_745 : decode code 745 = .ok (.iconst 1, 1) := by decide +kernel
theorem dL_746 : decode code 746 = .ok (.iadd, 1) := by decide +kernel
theorem dL_747 : decode code 747 = .ok (.iaload, 1) := by decide +kernel
theorem dL_748 : decode code 748 = .ok (.aload_n 0, 1) := by decide +kernel
theorem dL_749 : decode code 749 = .ok (.iload_n 3, 1) := by decide +kernel
theorem dL_750 : decode code 750 = .ok (.iconst 2, 1) := by decide +kernel
theorem dL_751 : decode code 751 = .ok (.iadd, 1) := by decide +kernel
theorem dL_752 : decode code 752 = .ok (.iaload, 1) := by decide +kernel
theorem dL_753 : decode code 753 = .ok (.invokevirtual 110, 3) := by decide +kernel
theorem dL_756 : decode code 756 = .ok (.if_icmp .eq 143, 3) := by decide +kernel
theorem dL_759 : decode code 759 = .ok (.iconst 0, 1) := by decide +kernel
theorem dL_760 : decode code 760 = .ok (.ireturn, 1) := by decide +kernel
theorem dL_761 : decode code 761 = .ok (.aload_n 1, 1) := by decide +kernel
theorem dL_762 : decode code 762 = .ok (.aload_n 0, 1) := by decide +kernel
theorem dL_763 : decode code 763 = .ok (.iload_n 3, 1) := by decide +kernel
theorem dL_764 : decode code 764 = .ok (.iconst 1, 1) := by decide +kernel
theorem dL_765 : decode code 765 = .ok (.iadd, 1) := by decide +kernel
theorem dL_766 : decode code 766 = .ok (.iaload, 1) := by decide +kernel
theorem dL_767 : decode code 767 = .ok (.aload_n 0, 1) := by decide +kernel
theorem dL_768 : decode code 768 = .ok (.iload_n 3, 1) := by decide +kernel
theorem dL_769 : decode code 769 = .ok (.iconst 2, 1) := by decide +kernel
theorem dL_770 : decode code 770 = .ok (.iadd, 1) := by decide +kernel
theorem dL_771 : decode code 771 = .ok (.iaload, 1) := by decide +kernel
theorem dL_772 : decode code 772 = .ok (.invokevirtual 111, 3) := by decide +kernel
theorem dL_775 : decode code 775 = .ok (.aload_n 2, 1) := by decide +kernel
theorem dL_776 : decode code 776 = .ok (.aload_n 0, 1) := by decide +kernel
theorem dL_777 : decode code 777 = .ok (.iload_n 3, 1) := by decide +kernel
theorem dL_778 : decode code 778 = .ok (.iconst 1, 1) := by decide +kernel
theorem dL_779 : decode code 779 = .ok (.iadd, 1) := by decide +kernel
theorem dL_780 : decode code 780 = .ok (.iaload, 1) := by decide +kernel
theorem dL_781 : decode code 781 = .ok (.aload_n 0, 1) := by decide +kernel
theorem dL_782 : decode code 782 = .ok (.iload_n 3, 1) := by decide +kernel
theorem dL_783 : decode code 783 = .ok (.iconst 2, 1) := by decide +kernel
theorem dL_784 : decode code 784 = .ok (.iadd, 1) := by decide +kernel
theorem dL_785 : decode code 785 = .ok (.iaload, 1) := by decide +kernel
theorem dL_786 : decode code 786 = .ok (.invokevirtual 114, 3) := by decide +kernel
theorem dL_789 : decode code 789 = .ok (.if_icmp .eq 110, 3) := by decide +kernel
theorem dL_792 : decode code 792 = .ok (.iconst 0, 1) := by decide +kernel
theorem dL_793 : decode code 793 = .ok (.ireturn, 1) := by decide +kernel
theorem dL_794 : decode code 794 = .ok (.aload_n 1, 1) := by decide +kernel
theorem dL_795 : decode code 795 = .ok (.aload_n 0, 1) := by decide +kernel
theorem dL_796 : decode code 796 = .ok (.iload_n 3, 1) := by decide +kernel
theorem dL_797 : decode code 797 = .ok (.iconst 1, 1) := by decide +kernel
theorem dL_798 : decode code 798 = .ok (.iadd, 1) := by decide +kernel
theorem dL_799 : decode code 799 = .ok (.iaload, 1) := by decide +kernel
theorem dL_800 : decode code 800 = .ok (.invokevirtual 115, 3) := by decide +kernel
theorem dL_803 : decode code 803 = .ok (.aload_n 2, 1) := by decide +kernel
theorem dL_804 : decode code 804 = .ok (.aload_n 0, 1) := by decide +kernel
theorem dL_805 : decode code 805 = .ok (.iload_n 3, 1) := by decide +kernel
theorem dL_806 : decode code 806 = .ok (.iconst 1, 1) := by decide +kernel
theorem dL_807 : decode code 807 = .ok (.iadd, 1) := by decide +kernel
theorem dL_808 : decode code 808 = .ok (.iaload, 1) := by decide +kernel
theorem dL_809 : decode code 809 = .ok (.invokevirtual 118, 3) := by decide +kernel
theorem dL_812 : decode code 812 = .ok (.if_icmp .eq 87, 3) := by decide +kernel
theorem dL_815 : decode code 815 = .ok (.iconst 0, 1) := by decide +kernel
theorem dL_816 : decode code 816 = .ok (.ireturn, 1) := by decide +kernel
theorem dL_817 : decode code 817 = .ok (.aload_n 1, 1) := by decide +kernel
theorem dL_818 : decode code 818 = .ok (.aload_n 0, 1) := by decide +kernel
theorem dL_819 : decode code 819 = .ok (.iload_n 3, 1) := by decide +kernel
theorem dL_820 : decode code 820 = .ok (.iconst 1, 1) := by decide +kernel
theorem dL_821 : decode code 821 = .ok (.iadd, 1) := by decide +kernel
theorem dL_822 : decode code 822 = .ok (.iaload, 1) := by decide +kernel
theorem dL_823 : decode code 823 = .ok (.aload_n 0, 1) := by decide +kernel
theorem dL_824 : decode code 824 = .ok (.iload_n 3, 1) := by decide +kernel
theorem dL_825 : decode code 825 = .ok (.iconst 2, 1) := by decide +kernel
theorem dL_826 : decode code 826 = .ok (.iadd, 1) := by decide +kernel
theorem dL_827 : decode code 827 = .ok (.iaload, 1) := by decide +kernel
theorem dL_828 : decode code 828 = .ok (.invokevirtual 119, 3) := by decide +kernel
theorem dL_831 : decode code 831 = .ok (.aload_n 2, 1) := by decide +kernel
theorem dL_832 : decode code 832 = .ok (.aload_n 0, 1) := by decide +kernel
theorem dL_833 : decode code 833 = .ok (.iload_n 3, 1) := by decide +kernel
theorem dL_834 : decode code 834 = .ok (.iconst 1, 1) := by decide +kernel
theorem dL_835 : decode code 835 = .ok (.iadd, 1) := by decide +kernel
theorem dL_836 : decode code 836 = .ok (.iaload, 1) := by decide +kernel
theorem dL_837 : decode code 837 = .ok (.aload_n 0, 1) := by decide +kernel
theorem dL_838 : decode code 838 = .ok (.iload_n 3, 1) := by decide +kernel
theorem dL_839 : decode code 839 = .ok (.iconst 2, 1) := by decide +kernel
theorem dL_840 : decode code 840 = .ok (.iadd, 1) := by decide +kernel
theorem dL_841 : decode code 841 = .ok (.iaload, 1) := by decide +kernel
theorem dL_842 : decode code 842 = .ok (.invokevirtual 122, 3) := by decide +kernel
theorem dL_845 : decode code 845 = .ok (.if_icmp .eq 54, 3) := by decide +kernel
theorem dL_848 : decode code 848 = .ok (.iconst 0, 1) := by decide +kernel
theorem dL_849 : decode code 849 = .ok (.ireturn, 1) := by decide +kernel
theorem dL_850 : decode code 850 = .ok (.aload_n 1, 1) := by decide +kernel
theorem dL_851 : decode code 851 = .ok (.invokevirtual 123, 3) := by decide +kernel
theorem dL_854 : decode code 854 = .ok (.aload_n 2, 1) := by decide +kernel
theorem dL_855 : decode code 855 = .ok (.invokevirtual 126, 3) := by decide +kernel
theorem dL_858 : decode code 858 = .ok (.if_icmp .eq 41, 3) := by decide +kernel
theorem dL_861 : decode code 861 = .ok (.iconst 0, 1) := by decide +kernel
theorem dL_862 : decode code 862 = .ok (.ireturn, 1) := by decide +kernel
theorem dL_863 : decode code 863 = .ok (.aload_n 1, 1) := by decide +kernel
theorem dL_864 : decode code 864 = .ok (.invokevirtual 127, 3) := by decide +kernel
theorem dL_867 : decode code 867 = .ok (.aload_n 2, 1) := by decide +kernel
theorem dL_868 : decode code 868 = .ok (.invokevirtual 130, 3) := by decide +kernel
theorem dL_871 : decode code 871 = .ok (.if_icmp .eq 28, 3) := by decide +kernel
theorem dL_874 : decode code 874 = .ok (.iconst 0, 1) := by decide +kernel
theorem dL_875 : decode code 875 = .ok (.ireturn, 1) := by decide +kernel
theorem dL_876 : decode code 876 = .ok (.aload_n 1, 1) := by decide +kernel
theorem dL_877 : decode code 877 = .ok (.aload_n 0, 1) := by decide +kernel
theorem dL_878 : decode code 878 = .ok (.iload_n 3, 1) := by decide +kernel
theorem dL_879 : decode code 879 = .ok (.iconst 1, 1) := by decide +kernel
theorem dL_880 : decode code 880 = .ok (.iadd, 1) := by decide +kernel
theorem dL_881 : decode code 881 = .ok (.iaload, 1) := by decide +kernel
theorem dL_882 : decode code 882 = .ok (.invokevirtual 131, 3) := by decide +kernel
theorem dL_885 : decode code 885 = .ok (.aload_n 2, 1) := by decide +kernel
theorem dL_886 : decode code 886 = .ok (.aload_n 0, 1) := by decide +kernel
theorem dL_887 : decode code 887 = .ok (.iload_n 3, 1) := by decide +kernel
theorem dL_888 : decode code 888 = .ok (.iconst 1, 1) := by decide +kernel
theorem dL_889 : decode code 889 = .ok (.iadd, 1) := by decide +kernel
theorem dL_890 : decode code 890 = .ok (.iaload, 1) := by decide +kernel
theorem dL_891 : decode code 891 = .ok (.invokevirtual 134, 3) := by decide +kernel
theorem dL_894 : decode code 894 = .ok (.if_icmp .eq 5, 3) := by decide +kernel
theorem dL_897 : decode code 897 = .ok (.iconst 0, 1) := by decide +kernel
theorem dL_898 : decode code 898 = .ok (.ireturn, 1) := by decide +kernel
theorem dL_899 : decode code 899 = .ok (.iinc 3 4, 3) := by decide +kernel
theorem dL_902 : decode code 902 = .ok (.goto (-884), 3) := by decide +kernel
theorem dL_905 : decode code 905 = .ok (.iconst 1, 1) := by decide +kernel
theorem dL_906 : decode code 906 = .ok (.ireturn, 1) := by decide +kernel
theorem qL236 : Cond.methodLink R_law 13 yX7_tie ∈ gt := gt_in (i := 236) (by decide +kernel) (by decide +kernel)
theorem qL319 : Cond.methodLink R_law 18 yX7_untie ∈ gt := gt_in (i := 319) (by decide +kernel) (by decide +kernel)
theorem qL323 : Cond.methodLink R_law 23 yX7_pull ∈ gt := gt_in (i := 323) (by decide +kernel) (by decide +kernel)
theorem qL338 : Cond.methodLink R_law 27 yX7_layRope ∈ gt := gt_in (i := 338) (by decide +kernel) (by decide +kernel)
theorem qL379 : Cond.methodLink R_law 32 yX7_teach ∈ gt := gt_in (i := 379) (by decide +kernel) (by decide +kernel)
theorem qL388 : Cond.methodLink R_law 36 yX7_setRings ∈ gt := gt_in (i := 388) (by decide +kernel) (by decide +kernel)
theorem qL401 : Cond.methodLink R_law 41 yX7_ring ∈ gt := gt_in (i := 401) (by decide +kernel) (by decide +kernel)
theorem qL453 : Cond.methodLink R_law 45 yX7_forget ∈ gt := gt_in (i := 453) (by decide +kernel) (by decide +kernel)
theorem qL459 : Cond.methodLink R_law 49 yX7_tell ∈ gt := gt_in (i := 459) (by decide +kernel) (by decide +kernel)
theorem qL463 : Cond.methodLink R_law 53 yX7_set ∈ gt := gt_in (i := 463) (by decide +kernel) (by decide +kernel)
theorem qL467 : Cond.methodLink R_law 57 yX7_type ∈ gt := gt_in (i := 467) (by decide +kernel) (by decide +kernel)
theorem qL475 : Cond.methodLink R_law 62 yX7_clearText ∈ gt := gt_in (i := 475) (by decide +kernel) (by decide +kernel)
theorem qL483 : Cond.methodLink R_law 66 yX7_fault ∈ gt := gt_in (i := 483) (by decide +kernel) (by decide +kernel)
theorem qL494 : Cond.methodLink R_law 71 yX7_undo ∈ gt := gt_in (i := 494) (by decide +kernel) (by decide +kernel)
theorem qL502 : Cond.methodLink R_law 75 yX7_keep ∈ gt := gt_in (i := 502) (by decide +kernel) (by decide +kernel)
theorem qL507 : Cond.methodLink R_law 79 yX7_restore ∈ gt := gt_in (i := 507) (by decide +kernel) (by decide +kernel)
theorem qL511 : Cond.methodLink R_law 83 yX7_knot ∈ gt := gt_in (i := 511) (by decide +kernel) (by decide +kernel)
theorem qL520 : Cond.methodLink R_law 87 yX7_run ∈ gt := gt_in (i := 520) (by decide +kernel) (by decide +kernel)
theorem qL538 : Cond.methodLink R_law 91 yX7_splits ∈ gt := gt_in (i := 538) (by decide +kernel) (by decide +kernel)
theorem qL549 : Cond.methodLink R_law 95 yX7_splitsBack ∈ gt := gt_in (i := 549) (by decide +kernel) (by decide +kernel)
theorem qL557 : Cond.methodLink R_law 99 yX7_nearest ∈ gt := gt_in (i := 557) (by decide +kernel) (by decide +kernel)
theorem qL569 : Cond.methodLink R_law 103 yX7_word ∈ gt := gt_in (i := 569) (by decide +kernel) (by decide +kernel)
theorem qL583 : Cond.methodLink R_law 107 yX7_learner ∈ gt := gt_in (i := 583) (by decide +kernel) (by decide +kernel)
theorem qL599 : Cond.methodLink R_law 111 yX7_heard ∈ gt := gt_in (i := 599) (by decide +kernel) (by decide +kernel)
theorem qL603 : Cond.methodLink R_law 115 yX7_reason ∈ gt := gt_in (i := 603) (by decide +kernel) (by decide +kernel)
theorem qL607 : Cond.methodLink R_law 119 yX7_ifPulled ∈ gt := gt_in (i := 607) (by decide +kernel) (by decide +kernel)
theorem qL611 : Cond.methodLink R_law 123 yX7_safePull ∈ gt := gt_in (i := 611) (by decide +kernel) (by decide +kernel)
theorem qL624 : Cond.methodLink R_law 127 yX7_allRightIn ∈ gt := gt_in (i := 624) (by decide +kernel) (by decide +kernel)
theorem qL638 : Cond.methodLink R_law 131 yX7_count ∈ gt := gt_in (i := 638) (by decide +kernel) (by decide +kernel)
theorem qL687 : Cond.methodLink R_law 74 yX8_undo ∈ gt := gt_in (i := 687) (by decide +kernel) (by decide +kernel)
theorem qL691 : Cond.methodLink R_law 78 yX8_keep ∈ gt := gt_in (i := 691) (by decide +kernel) (by decide +kernel)
theorem qL699 : Cond.methodLink R_law 82 yX8_restore ∈ gt := gt_in (i := 699) (by decide +kernel) (by decide +kernel)
theorem qL707 : Cond.methodLink R_law 17 yX8_tie ∈ gt := gt_in (i := 707) (by decide +kernel) (by decide +kernel)
theorem qL729 : Cond.methodLink R_law 22 yX8_untie ∈ gt := gt_in (i := 729) (by decide +kernel) (by decide +kernel)
theorem qL733 : Cond.methodLink R_law 26 yX8_pull ∈ gt := gt_in (i := 733) (by decide +kernel) (by decide +kernel)
theorem qL753 : Cond.methodLink R_law 31 yX8_layRope ∈ gt := gt_in (i := 753) (by decide +kernel) (by decide +kernel)
theorem qL761 : Cond.methodLink R_law 35 yX8_teach ∈ gt := gt_in (i := 761) (by decide +kernel) (by decide +kernel)
theorem qL777 : Cond.methodLink R_law 40 yX8_setRings ∈ gt := gt_in (i := 777) (by decide +kernel) (by decide +kernel)
theorem qL785 : Cond.methodLink R_law 44 yX8_ring ∈ gt := gt_in (i := 785) (by decide +kernel) (by decide +kernel)
theorem qL825 : Cond.methodLink R_law 48 yX8_forget ∈ gt := gt_in (i := 825) (by decide +kernel) (by decide +kernel)
theorem qL832 : Cond.methodLink R_law 52 yX8_tell ∈ gt := gt_in (i := 832) (by decide +kernel) (by decide +kernel)
theorem qL836 : Cond.methodLink R_law 56 yX8_set ∈ gt := gt_in (i := 836) (by decide +kernel) (by decide +kernel)
theorem qL840 : Cond.methodLink R_law 61 yX8_type ∈ gt := gt_in (i := 840) (by decide +kernel) (by decide +kernel)
theorem qL844 : Cond.methodLink R_law 65 yX8_clearText ∈ gt := gt_in (i := 844) (by decide +kernel) (by decide +kernel)
theorem qL848 : Cond.methodLink R_law 70 yX8_fault ∈ gt := gt_in (i := 848) (by decide +kernel) (by decide +kernel)
theorem qL852 : Cond.methodLink R_law 86 yX8_knot ∈ gt := gt_in (i := 852) (by decide +kernel) (by decide +kernel)
theorem qL860 : Cond.methodLink R_law 90 yX8_run ∈ gt := gt_in (i := 860) (by decide +kernel) (by decide +kernel)
theorem qL880 : Cond.methodLink R_law 94 yX8_splits ∈ gt := gt_in (i := 880) (by decide +kernel) (by decide +kernel)
theorem qL888 : Cond.methodLink R_law 98 yX8_splitsBack ∈ gt := gt_in (i := 888) (by decide +kernel) (by decide +kernel)
theorem qL892 : Cond.methodLink R_law 102 yX8_nearest ∈ gt := gt_in (i := 892) (by decide +kernel) (by decide +kernel)
theorem qL900 : Cond.methodLink R_law 106 yX8_word ∈ gt := gt_in (i := 900) (by decide +kernel) (by decide +kernel)
theorem qL908 : Cond.methodLink R_law 110 yX8_learner ∈ gt := gt_in (i := 908) (by decide +kernel) (by decide +kernel)
theorem qL916 : Cond.methodLink R_law 114 yX8_heard ∈ gt := gt_in (i := 916) (by decide +kernel) (by decide +kernel)
theorem qL920 : Cond.methodLink R_law 118 yX8_reason ∈ gt := gt_in (i := 920) (by decide +kernel) (by decide +kernel)
theorem qL924 : Cond.methodLink R_law 122 yX8_ifPulled ∈ gt := gt_in (i := 924) (by decide +kernel) (by decide +kernel)
theorem qL928 : Cond.methodLink R_law 126 yX8_safePull ∈ gt := gt_in (i := 928) (by decide +kernel) (by decide +kernel)
theorem qL940 : Cond.methodLink R_law 130 yX8_allRightIn ∈ gt := gt_in (i := 940) (by decide +kernel) (by decide +kernel)
theorem qL944 : Cond.methodLink R_law 134 yX8_count ∈ gt := gt_in (i := 944) (by decide +kernel) (by decide +kernel)
def lf1 (o : Option Int32) (G : GT) : Option (Int32 × GT) := match o with
  | none => none
  | some v => some (v, G)
theorem lf1_s {o : Option Int32} {G G1 : GT} {v : Int32} (h : lf1 o G = some (v, G1)) : o = some v ∧ G = G1 := by
  cases o with
  | none => cases h
  | some x => cases h; exact ⟨rfl, rfl⟩
theorem j_sld {p : Program} {l : Launch} {e : Env} {R : Room} {s : State} {m : MethodId} {args : Array Value} {below : List Frame} {meth : Method} {c : Code} {E : ET} {A : Nat → Prop} {H0 : Heap} {nL cells slots : Nat} {Q : State → Prop} {G : GT} {pc : Nat} {lv : List (Nat × Value)} {st : List Value} {own : String} {cc : ByteArray} (X : Cx p R s m args c own cc nL E A cells slots) {b L : Nat} {xs : Nat → Int32} {i : Int32} (hX : va_X b L xs s H0 ∧ b < H0.size ∧ ¬ A b) (hin : inb i L = true) (hdg : decode cc pc = .ok (.iaload, 1)) (kk : J p l e R s m args below meth c E A H0 nL cells slots Q G (pc + 1) lv (.int (xs i.toNatClampNeg) :: st)) : J p l e R s m args below meth c E A H0 nL cells slots Q G pc lv (.int i :: .ref b :: st) := fun H locs ls hH hS hl => va_sld X.1.1 X.1.2.1 hX.1 hX.2.1 hX.2.2 hS (inb_in hin) hdg (kk H locs ls hH hS hl)
theorem j_slen {p : Program} {l : Launch} {e : Env} {R : Room} {s : State} {m : MethodId} {args : Array Value} {below : List Frame} {meth : Method} {c : Code} {E : ET} {A : Nat → Prop} {H0 : Heap} {nL cells slots : Nat} {Q : State → Prop} {G : GT} {pc : Nat} {lv : List (Nat × Value)} {st : List Value} {own : String} {cc : ByteArray} (X : Cx p R s m args c own cc nL E A cells slots) {b L : Nat} {xs : Nat → Int32} (hX : va_X b L xs s H0 ∧ b < H0.size ∧ ¬ A b) (hdg : decode cc pc = .ok (.arraylength, 1)) (kk : J p l e R s m args below meth c E A H0 nL cells slots Q G (pc + 1) lv (.int (nI L) :: st)) : J p l e R s m args below meth c E A H0 nL cells slots Q G pc lv (.ref b :: st) := fun H locs ls hH hS hl => va_slen X.1.1 X.1.2.1 hX.1 hX.2.1 hX.2.2 hS hdg (kk H locs ls hH hS hl)
noncomputable def oc (o : Nat) (G : GT) (a b c : Int32) : Option (Int32 × GT) := match o with
  | 0 => fX7_tie G a b c
  | 1 => fX7_untie G a
  | 2 => fX7_pull G a
  | 3 => fX7_layRope G 
  | 4 => fX7_teach G a
  | 5 => fX7_setRings G a b
  | 6 => fX7_ring G 
  | 7 => fX7_forget G a b
  | 8 => fX7_tell G a b
  | 9 => fX7_set G a
  | 10 => fX7_type G (a.toUInt32 % 65536).toInt32
  | 11 => fX7_clearText G 
  | 12 => lf1 (fX7_fault G (if a = 0 then 0 else 1) b) G
  | 13 => fX7_undo G 
  | 14 => fX7_keep G 
  | 15 => fX7_restore G 
  | 16 => lf1 (fX7_knot G a b) G
  | 17 => fX7_run G a b
  | 18 => fX7_splits G a
  | 19 => fX7_splitsBack G a
  | 20 => fX7_nearest G a b
  | 21 => fX7_word G a b
  | 22 => fX7_learner G a b
  | 23 => lf1 (fX7_heard G a b) G
  | 24 => fX7_reason G a
  | 25 => fX7_ifPulled G a b
  | 26 => fX7_safePull G 
  | 27 => fX7_allRightIn G 
  | 28 => fX7_count G a
  | _ => none
noncomputable def om (o : Nat) (G : GT) (a b c : Int32) : Option (Int32 × GT) := match o with
  | 0 => fX8_tie G a b c
  | 1 => fX8_untie G a
  | 2 => fX8_pull G a
  | 3 => fX8_layRope G 
  | 4 => fX8_teach G a
  | 5 => fX8_setRings G a b
  | 6 => fX8_ring G 
  | 7 => fX8_forget G a b
  | 8 => fX8_tell G a b
  | 9 => fX8_set G a
  | 10 => fX8_type G (a.toUInt32 % 65536).toInt32
  | 11 => fX8_clearText G 
  | 12 => fX8_fault G (if a = 0 then 0 else 1) b
  | 13 => fX8_undo G 
  | 14 => fX8_keep G 
  | 15 => fX8_restore G 
  | 16 => lf1 (fX8_knot G a b) G
  | 17 => lf1 (fX8_run G a b) G
  | 18 => fX8_splits G a
  | 19 => fX8_splitsBack G a
  | 20 => lf1 (fX8_nearest G a b) G
  | 21 => lf1 (fX8_word G a b) G
  | 22 => lf1 (fX8_learner G a b) G
  | 23 => lf1 (fX8_heard G a b) G
  | 24 => lf1 (fX8_reason G a) G
  | 25 => fX8_ifPulled G a b
  | 26 => fX8_safePull G 
  | 27 => lf1 (fX8_allRightIn G ) G
  | 28 => lf1 (fX8_count G a) G
  | _ => none
theorem oc_0 (G : GT) (a b c : Int32) : oc 0 G a b c = fX7_tie G a b c := by simp only [oc]
theorem om_0 (G : GT) (a b c : Int32) : om 0 G a b c = fX8_tie G a b c := by simp only [om]
theorem oc_1 (G : GT) (a b c : Int32) : oc 1 G a b c = fX7_untie G a := by simp only [oc]
theorem om_1 (G : GT) (a b c : Int32) : om 1 G a b c = fX8_untie G a := by simp only [om]
theorem oc_2 (G : GT) (a b c : Int32) : oc 2 G a b c = fX7_pull G a := by simp only [oc]
theorem om_2 (G : GT) (a b c : Int32) : om 2 G a b c = fX8_pull G a := by simp only [om]
theorem oc_3 (G : GT) (a b c : Int32) : oc 3 G a b c = fX7_layRope G  := by simp only [oc]
theorem om_3 (G : GT) (a b c : Int32) : om 3 G a b c = fX8_layRope G  := by simp only [om]
theorem oc_4 (G : GT) (a b c : Int32) : oc 4 G a b c = fX7_teach G a := by simp only [oc]
theorem om_4 (G : GT) (a b c : Int32) : om 4 G a b c = fX8_teach G a := by simp only [om]
theorem oc_5 (G : GT) (a b c : Int32) : oc 5 G a b c = fX7_setRings G a b := by simp only [oc]
theorem om_5 (G : GT) (a b c : Int32) : om 5 G a b c = fX8_setRings G a b := by simp only [om]
theorem oc_6 (G : GT) (a b c : Int32) : oc 6 G a b c = fX7_ring G  := by simp only [oc]
theorem om_6 (G : GT) (a b c : Int32) : om 6 G a b c = fX8_ring G  := by simp only [om]
theorem oc_7 (G : GT) (a b c : Int32) : oc 7 G a b c = fX7_forget G a b := by simp only [oc]
theorem om_7 (G : GT) (a b c : Int32) : om 7 G a b c = fX8_forget G a b := by simp only [om]
theorem oc_8 (G : GT) (a b c : Int32) : oc 8 G a b c = fX7_tell G a b := by simp only [oc]
theorem om_8 (G : GT) (a b c : Int32) : om 8 G a b c = fX8_tell G a b := by simp only [om]
theorem oc_9 (G : GT) (a b c : Int32) : oc 9 G a b c = fX7_set G a := by simp only [oc]
theorem om_9 (G : GT) (a b c : Int32) : om 9 G a b c = fX8_set G a := by simp only [om]
theorem oc_10 (G : GT) (a b c : Int32) : oc 10 G a b c = fX7_type G (a.toUInt32 % 65536).toInt32 := by simp only [oc]
theorem om_10 (G : GT) (a b c : Int32) : om 10 G a b c = fX8_type G (a.toUInt32 % 65536).toInt32 := by simp only [om]
theorem oc_11 (G : GT) (a b c : Int32) : oc 11 G a b c = fX7_clearText G  := by simp only [oc]
theorem om_11 (G : GT) (a b c : Int32) : om 11 G a b c = fX8_clearText G  := by simp only [om]
theorem oc_12 (G : GT) (a b c : Int32) : oc 12 G a b c = lf1 (fX7_fault G (if a = 0 then 0 else 1) b) G := by simp only [oc]
theorem om_12 (G : GT) (a b c : Int32) : om 12 G a b c = fX8_fault G (if a = 0 then 0 else 1) b := by simp only [om]
theorem oc_13 (G : GT) (a b c : Int32) : oc 13 G a b c = fX7_undo G  := by simp only [oc]
theorem om_13 (G : GT) (a b c : Int32) : om 13 G a b c = fX8_undo G  := by simp only [om]
theorem oc_14 (G : GT) (a b c : Int32) : oc 14 G a b c = fX7_keep G  := by simp only [oc]
theorem om_14 (G : GT) (a b c : Int32) : om 14 G a b c = fX8_keep G  := by simp only [om]
theorem oc_15 (G : GT) (a b c : Int32) : oc 15 G a b c = fX7_restore G  := by simp only [oc]
theorem om_15 (G : GT) (a b c : Int32) : om 15 G a b c = fX8_restore G  := by simp only [om]
theorem oc_16 (G : GT) (a b c : Int32) : oc 16 G a b c = lf1 (fX7_knot G a b) G := by simp only [oc]
theorem om_16 (G : GT) (a b c : Int32) : om 16 G a b c = lf1 (fX8_knot G a b) G := by simp only [om]
theorem oc_17 (G : GT) (a b c : Int32) : oc 17 G a b c = fX7_run G a b := by simp only [oc]
theorem om_17 (G : GT) (a b c : Int32) : om 17 G a b c = lf1 (fX8_run G a b) G := by simp only [om]
theorem oc_18 (G : GT) (a b c : Int32) : oc 18 G a b c = fX7_splits G a := by simp only [oc]
theorem om_18 (G : GT) (a b c : Int32) : om 18 G a b c = fX8_splits G a := by simp only [om]
theorem oc_19 (G : GT) (a b c : Int32) : oc 19 G a b c = fX7_splitsBack G a := by simp only [oc]
theorem om_19 (G : GT) (a b c : Int32) : om 19 G a b c = fX8_splitsBack G a := by simp only [om]
theorem oc_20 (G : GT) (a b c : Int32) : oc 20 G a b c = fX7_nearest G a b := by simp only [oc]
theorem om_20 (G : GT) (a b c : Int32) : om 20 G a b c = lf1 (fX8_nearest G a b) G := by simp only [om]
theorem oc_21 (G : GT) (a b c : Int32) : oc 21 G a b c = fX7_word G a b := by simp only [oc]
theorem om_21 (G : GT) (a b c : Int32) : om 21 G a b c = lf1 (fX8_word G a b) G := by simp only [om]
theorem oc_22 (G : GT) (a b c : Int32) : oc 22 G a b c = fX7_learner G a b := by simp only [oc]
theorem om_22 (G : GT) (a b c : Int32) : om 22 G a b c = lf1 (fX8_learner G a b) G := by simp only [om]
theorem oc_23 (G : GT) (a b c : Int32) : oc 23 G a b c = lf1 (fX7_heard G a b) G := by simp only [oc]
theorem om_23 (G : GT) (a b c : Int32) : om 23 G a b c = lf1 (fX8_heard G a b) G := by simp only [om]
theorem oc_24 (G : GT) (a b c : Int32) : oc 24 G a b c = fX7_reason G a := by simp only [oc]
theorem om_24 (G : GT) (a b c : Int32) : om 24 G a b c = lf1 (fX8_reason G a) G := by simp only [om]
theorem oc_25 (G : GT) (a b c : Int32) : oc 25 G a b c = fX7_ifPulled G a b := by simp only [oc]
theorem om_25 (G : GT) (a b c : Int32) : om 25 G a b c = fX8_ifPulled G a b := by simp only [om]
theorem oc_26 (G : GT) (a b c : Int32) : oc 26 G a b c = fX7_safePull G  := by simp only [oc]
theorem om_26 (G : GT) (a b c : Int32) : om 26 G a b c = fX8_safePull G  := by simp only [om]
theorem oc_27 (G : GT) (a b c : Int32) : oc 27 G a b c = fX7_allRightIn G  := by simp only [oc]
theorem om_27 (G : GT) (a b c : Int32) : om 27 G a b c = lf1 (fX8_allRightIn G ) G := by simp only [om]
theorem oc_28 (G : GT) (a b c : Int32) : oc 28 G a b c = fX7_count G a := by simp only [oc]
theorem om_28 (G : GT) (a b c : Int32) : om 28 G a b c = lf1 (fX8_count G a) G := by simp only [om]
set_option maxHeartbeats 4000000 in
set_option maxRecDepth 100000 in
theorem law_0 {p : Program} {l : Launch} {e : Env} {s : State} {m : MethodId} {below : List Frame} {meth : Method} {c : Code} {E : ET} {Q : State → Prop} {b L : Nat} {xs : Nat → Int32} (X : Cx p room_1 s m #[Value.ref b] c R_law code 4 E (fun q : Nat => s.heap.size ≤ q) 96 4339) (hX : va_X b L xs s s.heap ∧ b < s.heap.size ∧ ¬ (fun q : Nat => s.heap.size ≤ q) b) (hE : Aj E) {G G1 G2 : GT} {z v : Int32} (h1 : inb (z + 1) L = true) (h2 : inb (z + 2) L = true) (h3 : inb (z + 3) L = true) (hc : fX7_tie G (xs (z + 1).toNatClampNeg) (xs (z + 2).toNatClampNeg) (xs (z + 3).toNatClampNeg) = some (v, G1)) (hm : fX8_tie G1 (xs (z + 1).toNatClampNeg) (xs (z + 2).toNatClampNeg) (xs (z + 3).toNatClampNeg) = some (v, G2)) (k : J p l e room_1 s m #[Value.ref b] below meth c E (fun q : Nat => s.heap.size ≤ q) s.heap 4 96 4339 Q G2 899 [(0, .ref b), (1, .ref (Ad E 20 0)), (2, .ref (Ad E 22 0)), (3, .int z)] []) : J p l e room_1 s m #[Value.ref b] below meth c E (fun q : Nat => s.heap.size ≤ q) s.heap 4 96 4339 Q G 164 [(0, .ref b), (1, .ref (Ad E 20 0)), (2, .ref (Ad E 22 0)), (3, .int z)] [] := by
  refine j_aload_n (pc := 164) X dL_164 rfl 1 rfl ?_
  refine j_aload_n (pc := 165) X dL_165 rfl 0 rfl ?_
  refine j_iload_n (pc := 166) X dL_166 rfl 3 rfl ?_
  refine j_iconst (pc := 167) (v := 1) X dL_167 (by decide) ?_
  refine j_iadd (pc := 168) X dL_168 ?_
  refine j_sld (pc := 169) X hX h1 dL_169 ?_
  refine j_aload_n (pc := 170) X dL_170 rfl 0 rfl ?_
  refine j_iload_n (pc := 171) X dL_171 rfl 3 rfl ?_
  refine j_iconst (pc := 172) (v := 2) X dL_172 (by decide) ?_
  refine j_iadd (pc := 173) X dL_173 ?_
  refine j_sld (pc := 174) X hX h2 dL_174 ?_
  refine j_aload_n (pc := 175) X dL_175 rfl 0 rfl ?_
  refine j_iload_n (pc := 176) X dL_176 rfl 3 rfl ?_
  refine j_iconst (pc := 177) (v := 3) X dL_177 (by decide) ?_
  refine j_iadd (pc := 178) X dL_178 ?_
  refine j_sld (pc := 179) X hX h3 dL_179 ?_
  refine j_callI (pc := 180) X (tX7_tie l hE G (xs (z + 1).toNatClampNeg) (xs (z + 2).toNatClampNeg) (xs (z + 3).toNatClampNeg) hc) muX7_tie (by decide) qL236 rfl rfl (Nat.le_of_ble_eq_true rfl) ⟨Nat.le_of_ble_eq_true rfl, Nat.le_of_ble_eq_true rfl⟩ dL_180 ?_
  refine j_aload_n (pc := 183) X dL_183 rfl 2 rfl ?_
  refine j_aload_n (pc := 184) X dL_184 rfl 0 rfl ?_
  refine j_iload_n (pc := 185) X dL_185 rfl 3 rfl ?_
  refine j_iconst (pc := 186) (v := 1) X dL_186 (by decide) ?_
  refine j_iadd (pc := 187) X dL_187 ?_
  refine j_sld (pc := 188) X hX h1 dL_188 ?_
  refine j_aload_n (pc := 189) X dL_189 rfl 0 rfl ?_
  refine j_iload_n (pc := 190) X dL_190 rfl 3 rfl ?_
  refine j_iconst (pc := 191) (v := 2) X dL_191 (by decide) ?_
  refine j_iadd (pc := 192) X dL_192 ?_
  refine j_sld (pc := 193) X hX h2 dL_193 ?_
  refine j_aload_n (pc := 194) X dL_194 rfl 0 rfl ?_
  refine j_iload_n (pc := 195) X dL_195 rfl 3 rfl ?_
  refine j_iconst (pc := 196) (v := 3) X dL_196 (by decide) ?_
  refine j_iadd (pc := 197) X dL_197 ?_
  refine j_sld (pc := 198) X hX h3 dL_198 ?_
  refine j_callI (pc := 199) X (tX8_tie l hE G1 (xs (z + 1).toNatClampNeg) (xs (z + 2).toNatClampNeg) (xs (z + 3).toNatClampNeg) hm) muX8_tie (by decide) qL707 rfl rfl (Nat.le_of_ble_eq_true rfl) ⟨Nat.le_of_ble_eq_true rfl, Nat.le_of_ble_eq_true rfl⟩ dL_199 ?_
  exact j_icmp_eq (pc := 202) (tgt := 899) X dL_202 (by decide) (fun _ => k) (fun hz => absurd rfl hz)
set_option maxHeartbeats 4000000 in
set_option maxRecDepth 100000 in
theorem law_1 {p : Program} {l : Launch} {e : Env} {s : State} {m : MethodId} {below : List Frame} {meth : Method} {c : Code} {E : ET} {Q : State → Prop} {b L : Nat} {xs : Nat → Int32} (X : Cx p room_1 s m #[Value.ref b] c R_law code 4 E (fun q : Nat => s.heap.size ≤ q) 96 4339) (hX : va_X b L xs s s.heap ∧ b < s.heap.size ∧ ¬ (fun q : Nat => s.heap.size ≤ q) b) (hE : Aj E) {G G1 G2 : GT} {z v : Int32} (h1 : inb (z + 1) L = true) (h2 : inb (z + 2) L = true) (h3 : inb (z + 3) L = true) (hc : fX7_untie G (xs (z + 1).toNatClampNeg) = some (v, G1)) (hm : fX8_untie G1 (xs (z + 1).toNatClampNeg) = some (v, G2)) (k : J p l e room_1 s m #[Value.ref b] below meth c E (fun q : Nat => s.heap.size ≤ q) s.heap 4 96 4339 Q G2 899 [(0, .ref b), (1, .ref (Ad E 20 0)), (2, .ref (Ad E 22 0)), (3, .int z)] []) : J p l e room_1 s m #[Value.ref b] below meth c E (fun q : Nat => s.heap.size ≤ q) s.heap 4 96 4339 Q G 207 [(0, .ref b), (1, .ref (Ad E 20 0)), (2, .ref (Ad E 22 0)), (3, .int z)] [] := by
  refine j_aload_n (pc := 207) X dL_207 rfl 1 rfl ?_
  refine j_aload_n (pc := 208) X dL_208 rfl 0 rfl ?_
  refine j_iload_n (pc := 209) X dL_209 rfl 3 rfl ?_
  refine j_iconst (pc := 210) (v := 1) X dL_210 (by decide) ?_
  refine j_iadd (pc := 211) X dL_211 ?_
  refine j_sld (pc := 212) X hX h1 dL_212 ?_
  refine j_callI (pc := 213) X (tX7_untie l hE G (xs (z + 1).toNatClampNeg) hc) muX7_untie (by decide) qL319 rfl rfl (Nat.le_of_ble_eq_true rfl) ⟨Nat.le_of_ble_eq_true rfl, Nat.le_of_ble_eq_true rfl⟩ dL_213 ?_
  refine j_aload_n (pc := 216) X dL_216 rfl 2 rfl ?_
  refine j_aload_n (pc := 217) X dL_217 rfl 0 rfl ?_
  refine j_iload_n (pc := 218) X dL_218 rfl 3 rfl ?_
  refine j_iconst (pc := 219) (v := 1) X dL_219 (by decide) ?_
  refine j_iadd (pc := 220) X dL_220 ?_
  refine j_sld (pc := 221) X hX h1 dL_221 ?_
  refine j_callI (pc := 222) X (tX8_untie l hE G1 (xs (z + 1).toNatClampNeg) hm) muX8_untie (by decide) qL729 rfl rfl (Nat.le_of_ble_eq_true rfl) ⟨Nat.le_of_ble_eq_true rfl, Nat.le_of_ble_eq_true rfl⟩ dL_222 ?_
  exact j_icmp_eq (pc := 225) (tgt := 899) X dL_225 (by decide) (fun _ => k) (fun hz => absurd rfl hz)
set_option maxHeartbeats 4000000 in
set_option maxRecDepth 100000 in
theorem law_2 {p : Program} {l : Launch} {e : Env} {s : State} {m : MethodId} {below : List Frame} {meth : Method} {c : Code} {E : ET} {Q : State → Prop} {b L : Nat} {xs : Nat → Int32} (X : Cx p room_1 s m #[Value.ref b] c R_law code 4 E (fun q : Nat => s.heap.size ≤ q) 96 4339) (hX : va_X b L xs s s.heap ∧ b < s.heap.size ∧ ¬ (fun q : Nat => s.heap.size ≤ q) b) (hE : Aj E) {G G1 G2 : GT} {z v : Int32} (h1 : inb (z + 1) L = true) (h2 : inb (z + 2) L = true) (h3 : inb (z + 3) L = true) (hc : fX7_pull G (xs (z + 1).toNatClampNeg) = some (v, G1)) (hm : fX8_pull G1 (xs (z + 1).toNatClampNeg) = some (v, G2)) (k : J p l e room_1 s m #[Value.ref b] below meth c E (fun q : Nat => s.heap.size ≤ q) s.heap 4 96 4339 Q G2 899 [(0, .ref b), (1, .ref (Ad E 20 0)), (2, .ref (Ad E 22 0)), (3, .int z)] []) : J p l e room_1 s m #[Value.ref b] below meth c E (fun q : Nat => s.heap.size ≤ q) s.heap 4 96 4339 Q G 230 [(0, .ref b), (1, .ref (Ad E 20 0)), (2, .ref (Ad E 22 0)), (3, .int z)] [] := by
  refine j_aload_n (pc := 230) X dL_230 rfl 1 rfl ?_
  refine j_aload_n (pc := 231) X dL_231 rfl 0 rfl ?_
  refine j_iload_n (pc := 232) X dL_232 rfl 3 rfl ?_
  refine j_iconst (pc := 233) (v := 1) X dL_233 (by decide) ?_
  refine j_iadd (pc := 234) X dL_234 ?_
  refine j_sld (pc := 235) X hX h1 dL_235 ?_
  refine j_callI (pc := 236) X (tX7_pull l hE G (xs (z + 1).toNatClampNeg) hc) muX7_pull (by decide) qL323 rfl rfl (Nat.le_of_ble_eq_true rfl) ⟨Nat.le_of_ble_eq_true rfl, Nat.le_of_ble_eq_true rfl⟩ dL_236 ?_
  refine j_aload_n (pc := 239) X dL_239 rfl 2 rfl ?_
  refine j_aload_n (pc := 240) X dL_240 rfl 0 rfl ?_
  refine j_iload_n (pc := 241) X dL_241 rfl 3 rfl ?_
  refine j_iconst (pc := 242) (v := 1) X dL_242 (by decide) ?_
  refine j_iadd (pc := 243) X dL_243 ?_
  refine j_sld (pc := 244) X hX h1 dL_244 ?_
  refine j_callI (pc := 245) X (tX8_pull l hE G1 (xs (z + 1).toNatClampNeg) hm) muX8_pull (by decide) qL733 rfl rfl (Nat.le_of_ble_eq_true rfl) ⟨Nat.le_of_ble_eq_true rfl, Nat.le_of_ble_eq_true rfl⟩ dL_245 ?_
  exact j_icmp_eq (pc := 248) (tgt := 899) X dL_248 (by decide) (fun _ => k) (fun hz => absurd rfl hz)
set_option maxHeartbeats 4000000 in
set_option maxRecDepth 100000 in
theorem law_3 {p : Program} {l : Launch} {e : Env} {s : State} {m : MethodId} {below : List Frame} {meth : Method} {c : Code} {E : ET} {Q : State → Prop} {b L : Nat} {xs : Nat → Int32} (X : Cx p room_1 s m #[Value.ref b] c R_law code 4 E (fun q : Nat => s.heap.size ≤ q) 96 4339) (hX : va_X b L xs s s.heap ∧ b < s.heap.size ∧ ¬ (fun q : Nat => s.heap.size ≤ q) b) (hE : Aj E) {G G1 G2 : GT} {z v : Int32} (h1 : inb (z + 1) L = true) (h2 : inb (z + 2) L = true) (h3 : inb (z + 3) L = true) (hc : fX7_layRope G  = some (v, G1)) (hm : fX8_layRope G1  = some (v, G2)) (k : J p l e room_1 s m #[Value.ref b] below meth c E (fun q : Nat => s.heap.size ≤ q) s.heap 4 96 4339 Q G2 899 [(0, .ref b), (1, .ref (Ad E 20 0)), (2, .ref (Ad E 22 0)), (3, .int z)] []) : J p l e room_1 s m #[Value.ref b] below meth c E (fun q : Nat => s.heap.size ≤ q) s.heap 4 96 4339 Q G 253 [(0, .ref b), (1, .ref (Ad E 20 0)), (2, .ref (Ad E 22 0)), (3, .int z)] [] := by
  refine j_aload_n (pc := 253) X dL_253 rfl 1 rfl ?_
  refine j_callI (pc := 254) X (tX7_layRope l hE G  hc) muX7_layRope (by decide) qL338 rfl rfl (Nat.le_of_ble_eq_true rfl) ⟨Nat.le_of_ble_eq_true rfl, Nat.le_of_ble_eq_true rfl⟩ dL_254 ?_
  refine j_aload_n (pc := 257) X dL_257 rfl 2 rfl ?_
  refine j_callI (pc := 258) X (tX8_layRope l hE G1  hm) muX8_layRope (by decide) qL753 rfl rfl (Nat.le_of_ble_eq_true rfl) ⟨Nat.le_of_ble_eq_true rfl, Nat.le_of_ble_eq_true rfl⟩ dL_258 ?_
  exact j_icmp_eq (pc := 261) (tgt := 899) X dL_261 (by decide) (fun _ => k) (fun hz => absurd rfl hz)
set_option maxHeartbeats 4000000 in
set_option maxRecDepth 100000 in
theorem law_4 {p : Program} {l : Launch} {e : Env} {s : State} {m : MethodId} {below : List Frame} {meth : Method} {c : Code} {E : ET} {Q : State → Prop} {b L : Nat} {xs : Nat → Int32} (X : Cx p room_1 s m #[Value.ref b] c R_law code 4 E (fun q : Nat => s.heap.size ≤ q) 96 4339) (hX : va_X b L xs s s.heap ∧ b < s.heap.size ∧ ¬ (fun q : Nat => s.heap.size ≤ q) b) (hE : Aj E) {G G1 G2 : GT} {z v : Int32} (h1 : inb (z + 1) L = true) (h2 : inb (z + 2) L = true) (h3 : inb (z + 3) L = true) (hc : fX7_teach G (xs (z + 1).toNatClampNeg) = some (v, G1)) (hm : fX8_teach G1 (xs (z + 1).toNatClampNeg) = some (v, G2)) (k : J p l e room_1 s m #[Value.ref b] below meth c E (fun q : Nat => s.heap.size ≤ q) s.heap 4 96 4339 Q G2 899 [(0, .ref b), (1, .ref (Ad E 20 0)), (2, .ref (Ad E 22 0)), (3, .int z)] []) : J p l e room_1 s m #[Value.ref b] below meth c E (fun q : Nat => s.heap.size ≤ q) s.heap 4 96 4339 Q G 266 [(0, .ref b), (1, .ref (Ad E 20 0)), (2, .ref (Ad E 22 0)), (3, .int z)] [] := by
  refine j_aload_n (pc := 266) X dL_266 rfl 1 rfl ?_
  refine j_aload_n (pc := 267) X dL_267 rfl 0 rfl ?_
  refine j_iload_n (pc := 268) X dL_268 rfl 3 rfl ?_
  refine j_iconst (pc := 269) (v := 1) X dL_269 (by decide) ?_
  refine j_iadd (pc := 270) X dL_270 ?_
  refine j_sld (pc := 271) X hX h1 dL_271 ?_
  refine j_callI (pc := 272) X (tX7_teach l hE G (xs (z + 1).toNatClampNeg) hc) muX7_teach (by decide) qL379 rfl rfl (Nat.le_of_ble_eq_true rfl) ⟨Nat.le_of_ble_eq_true rfl, Nat.le_of_ble_eq_true rfl⟩ dL_272 ?_
  refine j_aload_n (pc := 275) X dL_275 rfl 2 rfl ?_
  refine j_aload_n (pc := 276) X dL_276 rfl 0 rfl ?_
  refine j_iload_n (pc := 277) X dL_277 rfl 3 rfl ?_
  refine j_iconst (pc := 278) (v := 1) X dL_278 (by decide) ?_
  refine j_iadd (pc := 279) X dL_279 ?_
  refine j_sld (pc := 280) X hX h1 dL_280 ?_
  refine j_callI (pc := 281) X (tX8_teach l hE G1 (xs (z + 1).toNatClampNeg) hm) muX8_teach (by decide) qL761 rfl rfl (Nat.le_of_ble_eq_true rfl) ⟨Nat.le_of_ble_eq_true rfl, Nat.le_of_ble_eq_true rfl⟩ dL_281 ?_
  exact j_icmp_eq (pc := 284) (tgt := 899) X dL_284 (by decide) (fun _ => k) (fun hz => absurd rfl hz)
set_option maxHeartbeats 4000000 in
set_option maxRecDepth 100000 in
theorem law_5 {p : Program} {l : Launch} {e : Env} {s : State} {m : MethodId} {below : List Frame} {meth : Method} {c : Code} {E : ET} {Q : State → Prop} {b L : Nat} {xs : Nat → Int32} (X : Cx p room_1 s m #[Value.ref b] c R_law code 4 E (fun q : Nat => s.heap.size ≤ q) 96 4339) (hX : va_X b L xs s s.heap ∧ b < s.heap.size ∧ ¬ (fun q : Nat => s.heap.size ≤ q) b) (hE : Aj E) {G G1 G2 : GT} {z v : Int32} (h1 : inb (z + 1) L = true) (h2 : inb (z + 2) L = true) (h3 : inb (z + 3) L = true) (hc : fX7_setRings G (xs (z + 1).toNatClampNeg) (xs (z + 2).toNatClampNeg) = some (v, G1)) (hm : fX8_setRings G1 (xs (z + 1).toNatClampNeg) (xs (z + 2).toNatClampNeg) = some (v, G2)) (k : J p l e room_1 s m #[Value.ref b] below meth c E (fun q : Nat => s.heap.size ≤ q) s.heap 4 96 4339 Q G2 899 [(0, .ref b), (1, .ref (Ad E 20 0)), (2, .ref (Ad E 22 0)), (3, .int z)] []) : J p l e room_1 s m #[Value.ref b] below meth c E (fun q : Nat => s.heap.size ≤ q) s.heap 4 96 4339 Q G 289 [(0, .ref b), (1, .ref (Ad E 20 0)), (2, .ref (Ad E 22 0)), (3, .int z)] [] := by
  refine j_aload_n (pc := 289) X dL_289 rfl 1 rfl ?_
  refine j_aload_n (pc := 290) X dL_290 rfl 0 rfl ?_
  refine j_iload_n (pc := 291) X dL_291 rfl 3 rfl ?_
  refine j_iconst (pc := 292) (v := 1) X dL_292 (by decide) ?_
  refine j_iadd (pc := 293) X dL_293 ?_
  refine j_sld (pc := 294) X hX h1 dL_294 ?_
  refine j_aload_n (pc := 295) X dL_295 rfl 0 rfl ?_
  refine j_iload_n (pc := 296) X dL_296 rfl 3 rfl ?_
  refine j_iconst (pc := 297) (v := 2) X dL_297 (by decide) ?_
  refine j_iadd (pc := 298) X dL_298 ?_
  refine j_sld (pc := 299) X hX h2 dL_299 ?_
  refine j_callI (pc := 300) X (tX7_setRings l hE G (xs (z + 1).toNatClampNeg) (xs (z + 2).toNatClampNeg) hc) muX7_setRings (by decide) qL388 rfl rfl (Nat.le_of_ble_eq_true rfl) ⟨Nat.le_of_ble_eq_true rfl, Nat.le_of_ble_eq_true rfl⟩ dL_300 ?_
  refine j_aload_n (pc := 303) X dL_303 rfl 2 rfl ?_
  refine j_aload_n (pc := 304) X dL_304 rfl 0 rfl ?_
  refine j_iload_n (pc := 305) X dL_305 rfl 3 rfl ?_
  refine j_iconst (pc := 306) (v := 1) X dL_306 (by decide) ?_
  refine j_iadd (pc := 307) X dL_307 ?_
  refine j_sld (pc := 308) X hX h1 dL_308 ?_
  refine j_aload_n (pc := 309) X dL_309 rfl 0 rfl ?_
  refine j_iload_n (pc := 310) X dL_310 rfl 3 rfl ?_
  refine j_iconst (pc := 311) (v := 2) X dL_311 (by decide) ?_
  refine j_iadd (pc := 312) X dL_312 ?_
  refine j_sld (pc := 313) X hX h2 dL_313 ?_
  refine j_callI (pc := 314) X (tX8_setRings l hE G1 (xs (z + 1).toNatClampNeg) (xs (z + 2).toNatClampNeg) hm) muX8_setRings (by decide) qL777 rfl rfl (Nat.le_of_ble_eq_true rfl) ⟨Nat.le_of_ble_eq_true rfl, Nat.le_of_ble_eq_true rfl⟩ dL_314 ?_
  exact j_icmp_eq (pc := 317) (tgt := 899) X dL_317 (by decide) (fun _ => k) (fun hz => absurd rfl hz)
set_option maxHeartbeats 4000000 in
set_option maxRecDepth 100000 in
theorem law_6 {p : Program} {l : Launch} {e : Env} {s : State} {m : MethodId} {below : List Frame} {meth : Method} {c : Code} {E : ET} {Q : State → Prop} {b L : Nat} {xs : Nat → Int32} (X : Cx p room_1 s m #[Value.ref b] c R_law code 4 E (fun q : Nat => s.heap.size ≤ q) 96 4339) (hX : va_X b L xs s s.heap ∧ b < s.heap.size ∧ ¬ (fun q : Nat => s.heap.size ≤ q) b) (hE : Aj E) {G G1 G2 : GT} {z v : Int32} (h1 : inb (z + 1) L = true) (h2 : inb (z + 2) L = true) (h3 : inb (z + 3) L = true) (hc : fX7_ring G  = some (v, G1)) (hm : fX8_ring G1  = some (v, G2)) (k : J p l e room_1 s m #[Value.ref b] below meth c E (fun q : Nat => s.heap.size ≤ q) s.heap 4 96 4339 Q G2 899 [(0, .ref b), (1, .ref (Ad E 20 0)), (2, .ref (Ad E 22 0)), (3, .int z)] []) : J p l e room_1 s m #[Value.ref b] below meth c E (fun q : Nat => s.heap.size ≤ q) s.heap 4 96 4339 Q G 322 [(0, .ref b), (1, .ref (Ad E 20 0)), (2, .ref (Ad E 22 0)), (3, .int z)] [] := by
  refine j_aload_n (pc := 322) X dL_322 rfl 1 rfl ?_
  refine j_callI (pc := 323) X (tX7_ring l hE G  hc) muX7_ring (by decide) qL401 rfl rfl (Nat.le_of_ble_eq_true rfl) ⟨Nat.le_of_ble_eq_true rfl, Nat.le_of_ble_eq_true rfl⟩ dL_323 ?_
  refine j_aload_n (pc := 326) X dL_326 rfl 2 rfl ?_
  refine j_callI (pc := 327) X (tX8_ring l hE G1  hm) muX8_ring (by decide) qL785 rfl rfl (Nat.le_of_ble_eq_true rfl) ⟨Nat.le_of_ble_eq_true rfl, Nat.le_of_ble_eq_true rfl⟩ dL_327 ?_
  exact j_icmp_eq (pc := 330) (tgt := 899) X dL_330 (by decide) (fun _ => k) (fun hz => absurd rfl hz)
set_option maxHeartbeats 4000000 in
set_option maxRecDepth 100000 in
theorem law_7 {p : Program} {l : Launch} {e : Env} {s : State} {m : MethodId} {below : List Frame} {meth : Method} {c : Code} {E : ET} {Q : State → Prop} {b L : Nat} {xs : Nat → Int32} (X : Cx p room_1 s m #[Value.ref b] c R_law code 4 E (fun q : Nat => s.heap.size ≤ q) 96 4339) (hX : va_X b L xs s s.heap ∧ b < s.heap.size ∧ ¬ (fun q : Nat => s.heap.size ≤ q) b) (hE : Aj E) {G G1 G2 : GT} {z v : Int32} (h1 : inb (z + 1) L = true) (h2 : inb (z + 2) L = true) (h3 : inb (z + 3) L = true) (hc : fX7_forget G (xs (z + 1).toNatClampNeg) (xs (z + 2).toNatClampNeg) = some (v, G1)) (hm : fX8_forget G1 (xs (z + 1).toNatClampNeg) (xs (z + 2).toNatClampNeg) = some (v, G2)) (k : J p l e room_1 s m #[Value.ref b] below meth c E (fun q : Nat => s.heap.size ≤ q) s.heap 4 96 4339 Q G2 899 [(0, .ref b), (1, .ref (Ad E 20 0)), (2, .ref (Ad E 22 0)), (3, .int z)] []) : J p l e room_1 s m #[Value.ref b] below meth c E (fun q : Nat => s.heap.size ≤ q) s.heap 4 96 4339 Q G 335 [(0, .ref b), (1, .ref (Ad E 20 0)), (2, .ref (Ad E 22 0)), (3, .int z)] [] := by
  refine j_aload_n (pc := 335) X dL_335 rfl 1 rfl ?_
  refine j_aload_n (pc := 336) X dL_336 rfl 0 rfl ?_
  refine j_iload_n (pc := 337) X dL_337 rfl 3 rfl ?_
  refine j_iconst (pc := 338) (v := 1) X dL_338 (by decide) ?_
  refine j_iadd (pc := 339) X dL_339 ?_
  refine j_sld (pc := 340) X hX h1 dL_340 ?_
  refine j_aload_n (pc := 341) X dL_341 rfl 0 rfl ?_
  refine j_iload_n (pc := 342) X dL_342 rfl 3 rfl ?_
  refine j_iconst (pc := 343) (v := 2) X dL_343 (by decide) ?_
  refine j_iadd (pc := 344) X dL_344 ?_
  refine j_sld (pc := 345) X hX h2 dL_345 ?_
  refine j_callI (pc := 346) X (tX7_forget l hE G (xs (z + 1).toNatClampNeg) (xs (z + 2).toNatClampNeg) hc) muX7_forget (by decide) qL453 rfl rfl (Nat.le_of_ble_eq_true rfl) ⟨Nat.le_of_ble_eq_true rfl, Nat.le_of_ble_eq_true rfl⟩ dL_346 ?_
  refine j_aload_n (pc := 349) X dL_349 rfl 2 rfl ?_
  refine j_aload_n (pc := 350) X dL_350 rfl 0 rfl ?_
  refine j_iload_n (pc := 351) X dL_351 rfl 3 rfl ?_
  refine j_iconst (pc := 352) (v := 1) X dL_352 (by decide) ?_
  refine j_iadd (pc := 353) X dL_353 ?_
  refine j_sld (pc := 354) X hX h1 dL_354 ?_
  refine j_aload_n (pc := 355) X dL_355 rfl 0 rfl ?_
  refine j_iload_n (pc := 356) X dL_356 rfl 3 rfl ?_
  refine j_iconst (pc := 357) (v := 2) X dL_357 (by decide) ?_
  refine j_iadd (pc := 358) X dL_358 ?_
  refine j_sld (pc := 359) X hX h2 dL_359 ?_
  refine j_callI (pc := 360) X (tX8_forget l hE G1 (xs (z + 1).toNatClampNeg) (xs (z + 2).toNatClampNeg) hm) muX8_forget (by decide) qL825 rfl rfl (Nat.le_of_ble_eq_true rfl) ⟨Nat.le_of_ble_eq_true rfl, Nat.le_of_ble_eq_true rfl⟩ dL_360 ?_
  exact j_icmp_eq (pc := 363) (tgt := 899) X dL_363 (by decide) (fun _ => k) (fun hz => absurd rfl hz)
set_option maxHeartbeats 4000000 in
set_option maxRecDepth 100000 in
theorem law_8 {p : Program} {l : Launch} {e : Env} {s : State} {m : MethodId} {below : List Frame} {meth : Method} {c : Code} {E : ET} {Q : State → Prop} {b L : Nat} {xs : Nat → Int32} (X : Cx p room_1 s m #[Value.ref b] c R_law code 4 E (fun q : Nat => s.heap.size ≤ q) 96 4339) (hX : va_X b L xs s s.heap ∧ b < s.heap.size ∧ ¬ (fun q : Nat => s.heap.size ≤ q) b) (hE : Aj E) {G G1 G2 : GT} {z v : Int32} (h1 : inb (z + 1) L = true) (h2 : inb (z + 2) L = true) (h3 : inb (z + 3) L = true) (hc : fX7_tell G (xs (z + 1).toNatClampNeg) (xs (z + 2).toNatClampNeg) = some (v, G1)) (hm : fX8_tell G1 (xs (z + 1).toNatClampNeg) (xs (z + 2).toNatClampNeg) = some (v, G2)) (k : J p l e room_1 s m #[Value.ref b] below meth c E (fun q : Nat => s.heap.size ≤ q) s.heap 4 96 4339 Q G2 899 [(0, .ref b), (1, .ref (Ad E 20 0)), (2, .ref (Ad E 22 0)), (3, .int z)] []) : J p l e room_1 s m #[Value.ref b] below meth c E (fun q : Nat => s.heap.size ≤ q) s.heap 4 96 4339 Q G 368 [(0, .ref b), (1, .ref (Ad E 20 0)), (2, .ref (Ad E 22 0)), (3, .int z)] [] := by
  refine j_aload_n (pc := 368) X dL_368 rfl 1 rfl ?_
  refine j_aload_n (pc := 369) X dL_369 rfl 0 rfl ?_
  refine j_iload_n (pc := 370) X dL_370 rfl 3 rfl ?_
  refine j_iconst (pc := 371) (v := 1) X dL_371 (by decide) ?_
  refine j_iadd (pc := 372) X dL_372 ?_
  refine j_sld (pc := 373) X hX h1 dL_373 ?_
  refine j_aload_n (pc := 374) X dL_374 rfl 0 rfl ?_
  refine j_iload_n (pc := 375) X dL_375 rfl 3 rfl ?_
  refine j_iconst (pc := 376) (v := 2) X dL_376 (by decide) ?_
  refine j_iadd (pc := 377) X dL_377 ?_
  refine j_sld (pc := 378) X hX h2 dL_378 ?_
  refine j_callI (pc := 379) X (tX7_tell l hE G (xs (z + 1).toNatClampNeg) (xs (z + 2).toNatClampNeg) hc) muX7_tell (by decide) qL459 rfl rfl (Nat.le_of_ble_eq_true rfl) ⟨Nat.le_of_ble_eq_true rfl, Nat.le_of_ble_eq_true rfl⟩ dL_379 ?_
  refine j_aload_n (pc := 382) X dL_382 rfl 2 rfl ?_
  refine j_aload_n (pc := 383) X dL_383 rfl 0 rfl ?_
  refine j_iload_n (pc := 384) X dL_384 rfl 3 rfl ?_
  refine j_iconst (pc := 385) (v := 1) X dL_385 (by decide) ?_
  refine j_iadd (pc := 386) X dL_386 ?_
  refine j_sld (pc := 387) X hX h1 dL_387 ?_
  refine j_aload_n (pc := 388) X dL_388 rfl 0 rfl ?_
  refine j_iload_n (pc := 389) X dL_389 rfl 3 rfl ?_
  refine j_iconst (pc := 390) (v := 2) X dL_390 (by decide) ?_
  refine j_iadd (pc := 391) X dL_391 ?_
  refine j_sld (pc := 392) X hX h2 dL_392 ?_
  refine j_callI (pc := 393) X (tX8_tell l hE G1 (xs (z + 1).toNatClampNeg) (xs (z + 2).toNatClampNeg) hm) muX8_tell (by decide) qL832 rfl rfl (Nat.le_of_ble_eq_true rfl) ⟨Nat.le_of_ble_eq_true rfl, Nat.le_of_ble_eq_true rfl⟩ dL_393 ?_
  exact j_icmp_eq (pc := 396) (tgt := 899) X dL_396 (by decide) (fun _ => k) (fun hz => absurd rfl hz)
set_option maxHeartbeats 4000000 in
set_option maxRecDepth 100000 in
theorem law_9 {p : Program} {l : Launch} {e : Env} {s : State} {m : MethodId} {below : List Frame} {meth : Method} {c : Code} {E : ET} {Q : State → Prop} {b L : Nat} {xs : Nat → Int32} (X : Cx p room_1 s m #[Value.ref b] c R_law code 4 E (fun q : Nat => s.heap.size ≤ q) 96 4339) (hX : va_X b L xs s s.heap ∧ b < s.heap.size ∧ ¬ (fun q : Nat => s.heap.size ≤ q) b) (hE : Aj E) {G G1 G2 : GT} {z v : Int32} (h1 : inb (z + 1) L = true) (h2 : inb (z + 2) L = true) (h3 : inb (z + 3) L = true) (hc : fX7_set G (xs (z + 1).toNatClampNeg) = some (v, G1)) (hm : fX8_set G1 (xs (z + 1).toNatClampNeg) = some (v, G2)) (k : J p l e room_1 s m #[Value.ref b] below meth c E (fun q : Nat => s.heap.size ≤ q) s.heap 4 96 4339 Q G2 899 [(0, .ref b), (1, .ref (Ad E 20 0)), (2, .ref (Ad E 22 0)), (3, .int z)] []) : J p l e room_1 s m #[Value.ref b] below meth c E (fun q : Nat => s.heap.size ≤ q) s.heap 4 96 4339 Q G 401 [(0, .ref b), (1, .ref (Ad E 20 0)), (2, .ref (Ad E 22 0)), (3, .int z)] [] := by
  refine j_aload_n (pc := 401) X dL_401 rfl 1 rfl ?_
  refine j_aload_n (pc := 402) X dL_402 rfl 0 rfl ?_
  refine j_iload_n (pc := 403) X dL_403 rfl 3 rfl ?_
  refine j_iconst (pc := 404) (v := 1) X dL_404 (by decide) ?_
  refine j_iadd (pc := 405) X dL_405 ?_
  refine j_sld (pc := 406) X hX h1 dL_406 ?_
  refine j_callI (pc := 407) X (tX7_set l hE G (xs (z + 1).toNatClampNeg) hc) muX7_set (by decide) qL463 rfl rfl (Nat.le_of_ble_eq_true rfl) ⟨Nat.le_of_ble_eq_true rfl, Nat.le_of_ble_eq_true rfl⟩ dL_407 ?_
  refine j_aload_n (pc := 410) X dL_410 rfl 2 rfl ?_
  refine j_aload_n (pc := 411) X dL_411 rfl 0 rfl ?_
  refine j_iload_n (pc := 412) X dL_412 rfl 3 rfl ?_
  refine j_iconst (pc := 413) (v := 1) X dL_413 (by decide) ?_
  refine j_iadd (pc := 414) X dL_414 ?_
  refine j_sld (pc := 415) X hX h1 dL_415 ?_
  refine j_callI (pc := 416) X (tX8_set l hE G1 (xs (z + 1).toNatClampNeg) hm) muX8_set (by decide) qL836 rfl rfl (Nat.le_of_ble_eq_true rfl) ⟨Nat.le_of_ble_eq_true rfl, Nat.le_of_ble_eq_true rfl⟩ dL_416 ?_
  exact j_icmp_eq (pc := 419) (tgt := 899) X dL_419 (by decide) (fun _ => k) (fun hz => absurd rfl hz)
set_option maxHeartbeats 4000000 in
set_option maxRecDepth 100000 in
theorem law_10 {p : Program} {l : Launch} {e : Env} {s : State} {m : MethodId} {below : List Frame} {meth : Method} {c : Code} {E : ET} {Q : State → Prop} {b L : Nat} {xs : Nat → Int32} (X : Cx p room_1 s m #[Value.ref b] c R_law code 4 E (fun q : Nat => s.heap.size ≤ q) 96 4339) (hX : va_X b L xs s s.heap ∧ b < s.heap.size ∧ ¬ (fun q : Nat => s.heap.size ≤ q) b) (hE : Aj E) {G G1 G2 : GT} {z v : Int32} (h1 : inb (z + 1) L = true) (h2 : inb (z + 2) L = true) (h3 : inb (z + 3) L = true) (hc : fX7_type G ((xs (z + 1).toNatClampNeg).toUInt32 % 65536).toInt32 = some (v, G1)) (hm : fX8_type G1 ((xs (z + 1).toNatClampNeg).toUInt32 % 65536).toInt32 = some (v, G2)) (k : J p l e room_1 s m #[Value.ref b] below meth c E (fun q : Nat => s.heap.size ≤ q) s.heap 4 96 4339 Q G2 899 [(0, .ref b), (1, .ref (Ad E 20 0)), (2, .ref (Ad E 22 0)), (3, .int z)] []) : J p l e room_1 s m #[Value.ref b] below meth c E (fun q : Nat => s.heap.size ≤ q) s.heap 4 96 4339 Q G 424 [(0, .ref b), (1, .ref (Ad E 20 0)), (2, .ref (Ad E 22 0)), (3, .int z)] [] := by
  refine j_aload_n (pc := 424) X dL_424 rfl 1 rfl ?_
  refine j_aload_n (pc := 425) X dL_425 rfl 0 rfl ?_
  refine j_iload_n (pc := 426) X dL_426 rfl 3 rfl ?_
  refine j_iconst (pc := 427) (v := 1) X dL_427 (by decide) ?_
  refine j_iadd (pc := 428) X dL_428 ?_
  refine j_sld (pc := 429) X hX h1 dL_429 ?_
  refine j_i2c (pc := 430) X dL_430 ?_
  refine j_callI (pc := 431) X (tX7_type l hE G ((xs (z + 1).toNatClampNeg).toUInt32 % 65536).toInt32 hc) muX7_type (by decide) qL467 rfl rfl (Nat.le_of_ble_eq_true rfl) ⟨Nat.le_of_ble_eq_true rfl, Nat.le_of_ble_eq_true rfl⟩ dL_431 ?_
  refine j_aload_n (pc := 434) X dL_434 rfl 2 rfl ?_
  refine j_aload_n (pc := 435) X dL_435 rfl 0 rfl ?_
  refine j_iload_n (pc := 436) X dL_436 rfl 3 rfl ?_
  refine j_iconst (pc := 437) (v := 1) X dL_437 (by decide) ?_
  refine j_iadd (pc := 438) X dL_438 ?_
  refine j_sld (pc := 439) X hX h1 dL_439 ?_
  refine j_i2c (pc := 440) X dL_440 ?_
  refine j_callI (pc := 441) X (tX8_type l hE G1 ((xs (z + 1).toNatClampNeg).toUInt32 % 65536).toInt32 hm) muX8_type (by decide) qL840 rfl rfl (Nat.le_of_ble_eq_true rfl) ⟨Nat.le_of_ble_eq_true rfl, Nat.le_of_ble_eq_true rfl⟩ dL_441 ?_
  exact j_icmp_eq (pc := 444) (tgt := 899) X dL_444 (by decide) (fun _ => k) (fun hz => absurd rfl hz)
set_option maxHeartbeats 4000000 in
set_option maxRecDepth 100000 in
theorem law_11 {p : Program} {l : Launch} {e : Env} {s : State} {m : MethodId} {below : List Frame} {meth : Method} {c : Code} {E : ET} {Q : State → Prop} {b L : Nat} {xs : Nat → Int32} (X : Cx p room_1 s m #[Value.ref b] c R_law code 4 E (fun q : Nat => s.heap.size ≤ q) 96 4339) (hX : va_X b L xs s s.heap ∧ b < s.heap.size ∧ ¬ (fun q : Nat => s.heap.size ≤ q) b) (hE : Aj E) {G G1 G2 : GT} {z v : Int32} (h1 : inb (z + 1) L = true) (h2 : inb (z + 2) L = true) (h3 : inb (z + 3) L = true) (hc : fX7_clearText G  = some (v, G1)) (hm : fX8_clearText G1  = some (v, G2)) (k : J p l e room_1 s m #[Value.ref b] below meth c E (fun q : Nat => s.heap.size ≤ q) s.heap 4 96 4339 Q G2 899 [(0, .ref b), (1, .ref (Ad E 20 0)), (2, .ref (Ad E 22 0)), (3, .int z)] []) : J p l e room_1 s m #[Value.ref b] below meth c E (fun q : Nat => s.heap.size ≤ q) s.heap 4 96 4339 Q G 449 [(0, .ref b), (1, .ref (Ad E 20 0)), (2, .ref (Ad E 22 0)), (3, .int z)] [] := by
  refine j_aload_n (pc := 449) X dL_449 rfl 1 rfl ?_
  refine j_callI (pc := 450) X (tX7_clearText l hE G  hc) muX7_clearText (by decide) qL475 rfl rfl (Nat.le_of_ble_eq_true rfl) ⟨Nat.le_of_ble_eq_true rfl, Nat.le_of_ble_eq_true rfl⟩ dL_450 ?_
  refine j_aload_n (pc := 453) X dL_453 rfl 2 rfl ?_
  refine j_callI (pc := 454) X (tX8_clearText l hE G1  hm) muX8_clearText (by decide) qL844 rfl rfl (Nat.le_of_ble_eq_true rfl) ⟨Nat.le_of_ble_eq_true rfl, Nat.le_of_ble_eq_true rfl⟩ dL_454 ?_
  exact j_icmp_eq (pc := 457) (tgt := 899) X dL_457 (by decide) (fun _ => k) (fun hz => absurd rfl hz)
set_option maxHeartbeats 4000000 in
set_option maxRecDepth 100000 in
theorem law_12 {p : Program} {l : Launch} {e : Env} {s : State} {m : MethodId} {below : List Frame} {meth : Method} {c : Code} {E : ET} {Q : State → Prop} {b L : Nat} {xs : Nat → Int32} (X : Cx p room_1 s m #[Value.ref b] c R_law code 4 E (fun q : Nat => s.heap.size ≤ q) 96 4339) (hX : va_X b L xs s s.heap ∧ b < s.heap.size ∧ ¬ (fun q : Nat => s.heap.size ≤ q) b) (hE : Aj E) {G G1 G2 : GT} {z v : Int32} (h1 : inb (z + 1) L = true) (h2 : inb (z + 2) L = true) (h3 : inb (z + 3) L = true) (hc : lf1 (fX7_fault G (if (xs (z + 1).toNatClampNeg) = 0 then 0 else 1) (xs (z + 2).toNatClampNeg)) G = some (v, G1)) (hm : fX8_fault G1 (if (xs (z + 1).toNatClampNeg) = 0 then 0 else 1) (xs (z + 2).toNatClampNeg) = some (v, G2)) (k : J p l e room_1 s m #[Value.ref b] below meth c E (fun q : Nat => s.heap.size ≤ q) s.heap 4 96 4339 Q G2 899 [(0, .ref b), (1, .ref (Ad E 20 0)), (2, .ref (Ad E 22 0)), (3, .int z)] []) : J p l e room_1 s m #[Value.ref b] below meth c E (fun q : Nat => s.heap.size ≤ q) s.heap 4 96 4339 Q G 462 [(0, .ref b), (1, .ref (Ad E 20 0)), (2, .ref (Ad E 22 0)), (3, .int z)] [] := by
  refine j_aload_n (pc := 462) X dL_462 rfl 1 rfl ?_
  refine j_aload_n (pc := 463) X dL_463 rfl 0 rfl ?_
  refine j_iload_n (pc := 464) X dL_464 rfl 3 rfl ?_
  refine j_iconst (pc := 465) (v := 1) X dL_465 (by decide) ?_
  refine j_iadd (pc := 466) X dL_466 ?_
  refine j_sld (pc := 467) X hX h1 dL_467 ?_
  refine j_if_eq (pc := 468) (tgt := 475) X dL_468 (by decide) (fun hz => ?_) (fun hz => ?_)
  · rw [if_pos hz] at hc hm
    refine j_iconst (pc := 475) (v := 0) X dL_475 (by decide) ?_
    refine j_aload_n (pc := 476) X dL_476 rfl 0 rfl ?_
    refine j_iload_n (pc := 477) X dL_477 rfl 3 rfl ?_
    refine j_iconst (pc := 478) (v := 2) X dL_478 (by decide) ?_
    refine j_iadd (pc := 479) X dL_479 ?_
    refine j_sld (pc := 480) X hX h2 dL_480 ?_
    obtain ⟨hc2, rfl⟩ := lf1_s hc
    refine j_callI (pc := 481) X (tX7_fault l hE G 0 (xs (z + 2).toNatClampNeg) hc2) muX7_fault (by decide) qL483 rfl rfl (Nat.le_of_ble_eq_true rfl) ⟨Nat.le_of_ble_eq_true rfl, Nat.le_of_ble_eq_true rfl⟩ dL_481 ?_
    refine j_aload_n (pc := 484) X dL_484 rfl 2 rfl ?_
    refine j_aload_n (pc := 485) X dL_485 rfl 0 rfl ?_
    refine j_iload_n (pc := 486) X dL_486 rfl 3 rfl ?_
    refine j_iconst (pc := 487) (v := 1) X dL_487 (by decide) ?_
    refine j_iadd (pc := 488) X dL_488 ?_
    refine j_sld (pc := 489) X hX h1 dL_489 ?_
    refine j_if_eq (pc := 490) (tgt := 497) X dL_490 (by decide) (fun hz => ?_) (fun hz => ?_)
    · refine j_iconst (pc := 497) (v := 0) X dL_497 (by decide) ?_
      refine j_aload_n (pc := 498) X dL_498 rfl 0 rfl ?_
      refine j_iload_n (pc := 499) X dL_499 rfl 3 rfl ?_
      refine j_iconst (pc := 500) (v := 2) X dL_500 (by decide) ?_
      refine j_iadd (pc := 501) X dL_501 ?_
      refine j_sld (pc := 502) X hX h2 dL_502 ?_
      refine j_callI (pc := 503) X (tX8_fault l hE G 0 (xs (z + 2).toNatClampNeg) hm) muX8_fault (by decide) qL848 rfl rfl (Nat.le_of_ble_eq_true rfl) ⟨Nat.le_of_ble_eq_true rfl, Nat.le_of_ble_eq_true rfl⟩ dL_503 ?_
      exact j_icmp_eq (pc := 506) (tgt := 899) X dL_506 (by decide) (fun _ => k) (fun hz => absurd rfl hz)
    · exact absurd (by assumption) hz
  · rw [if_neg hz] at hc hm
    refine j_iconst (pc := 471) (v := 1) X dL_471 (by decide) ?_
    refine j_goto (pc := 472) (tgt := 476) X dL_472 (by decide) ?_
    refine j_aload_n (pc := 476) X dL_476 rfl 0 rfl ?_
    refine j_iload_n (pc := 477) X dL_477 rfl 3 rfl ?_
    refine j_iconst (pc := 478) (v := 2) X dL_478 (by decide) ?_
    refine j_iadd (pc := 479) X dL_479 ?_
    refine j_sld (pc := 480) X hX h2 dL_480 ?_
    obtain ⟨hc2, rfl⟩ := lf1_s hc
    refine j_callI (pc := 481) X (tX7_fault l hE G 1 (xs (z + 2).toNatClampNeg) hc2) muX7_fault (by decide) qL483 rfl rfl (Nat.le_of_ble_eq_true rfl) ⟨Nat.le_of_ble_eq_true rfl, Nat.le_of_ble_eq_true rfl⟩ dL_481 ?_
    refine j_aload_n (pc := 484) X dL_484 rfl 2 rfl ?_
    refine j_aload_n (pc := 485) X dL_485 rfl 0 rfl ?_
    refine j_iload_n (pc := 486) X dL_486 rfl 3 rfl ?_
    refine j_iconst (pc := 487) (v := 1) X dL_487 (by decide) ?_
    refine j_iadd (pc := 488) X dL_488 ?_
    refine j_sld (pc := 489) X hX h1 dL_489 ?_
    refine j_if_eq (pc := 490) (tgt := 497) X dL_490 (by decide) (fun hz => ?_) (fun hz => ?_)
    · exact absurd hz (by assumption)
    · refine j_iconst (pc := 493) (v := 1) X dL_493 (by decide) ?_
      refine j_goto (pc := 494) (tgt := 498) X dL_494 (by decide) ?_
      refine j_aload_n (pc := 498) X dL_498 rfl 0 rfl ?_
      refine j_iload_n (pc := 499) X dL_499 rfl 3 rfl ?_
      refine j_iconst (pc := 500) (v := 2) X dL_500 (by decide) ?_
      refine j_iadd (pc := 501) X dL_501 ?_
      refine j_sld (pc := 502) X hX h2 dL_502 ?_
      refine j_callI (pc := 503) X (tX8_fault l hE G 1 (xs (z + 2).toNatClampNeg) hm) muX8_fault (by decide) qL848 rfl rfl (Nat.le_of_ble_eq_true rfl) ⟨Nat.le_of_ble_eq_true rfl, Nat.le_of_ble_eq_true rfl⟩ dL_503 ?_
      exact j_icmp_eq (pc := 506) (tgt := 899) X dL_506 (by decide) (fun _ => k) (fun hz => absurd rfl hz)
set_option maxHeartbeats 4000000 in
set_option maxRecDepth 100000 in
theorem law_13 {p : Program} {l : Launch} {e : Env} {s : State} {m : MethodId} {below : List Frame} {meth : Method} {c : Code} {E : ET} {Q : State → Prop} {b L : Nat} {xs : Nat → Int32} (X : Cx p room_1 s m #[Value.ref b] c R_law code 4 E (fun q : Nat => s.heap.size ≤ q) 96 4339) (hX : va_X b L xs s s.heap ∧ b < s.heap.size ∧ ¬ (fun q : Nat => s.heap.size ≤ q) b) (hE : Aj E) {G G1 G2 : GT} {z v : Int32} (h1 : inb (z + 1) L = true) (h2 : inb (z + 2) L = true) (h3 : inb (z + 3) L = true) (hc : fX7_undo G  = some (v, G1)) (hm : fX8_undo G1  = some (v, G2)) (k : J p l e room_1 s m #[Value.ref b] below meth c E (fun q : Nat => s.heap.size ≤ q) s.heap 4 96 4339 Q G2 899 [(0, .ref b), (1, .ref (Ad E 20 0)), (2, .ref (Ad E 22 0)), (3, .int z)] []) : J p l e room_1 s m #[Value.ref b] below meth c E (fun q : Nat => s.heap.size ≤ q) s.heap 4 96 4339 Q G 511 [(0, .ref b), (1, .ref (Ad E 20 0)), (2, .ref (Ad E 22 0)), (3, .int z)] [] := by
  refine j_aload_n (pc := 511) X dL_511 rfl 1 rfl ?_
  refine j_callI (pc := 512) X (tX7_undo l hE G  hc) muX7_undo (by decide) qL494 rfl rfl (Nat.le_of_ble_eq_true rfl) ⟨Nat.le_of_ble_eq_true rfl, Nat.le_of_ble_eq_true rfl⟩ dL_512 ?_
  refine j_aload_n (pc := 515) X dL_515 rfl 2 rfl ?_
  refine j_callI (pc := 516) X (tX8_undo l hE G1  hm) muX8_undo (by decide) qL687 rfl rfl (Nat.le_of_ble_eq_true rfl) ⟨Nat.le_of_ble_eq_true rfl, Nat.le_of_ble_eq_true rfl⟩ dL_516 ?_
  exact j_icmp_eq (pc := 519) (tgt := 899) X dL_519 (by decide) (fun _ => k) (fun hz => absurd rfl hz)
set_option maxHeartbeats 4000000 in
set_option maxRecDepth 100000 in
theorem law_14 {p : Program} {l : Launch} {e : Env} {s : State} {m : MethodId} {below : List Frame} {meth : Method} {c : Code} {E : ET} {Q : State → Prop} {b L : Nat} {xs : Nat → Int32} (X : Cx p room_1 s m #[Value.ref b] c R_law code 4 E (fun q : Nat => s.heap.size ≤ q) 96 4339) (hX : va_X b L xs s s.heap ∧ b < s.heap.size ∧ ¬ (fun q : Nat => s.heap.size ≤ q) b) (hE : Aj E) {G G1 G2 : GT} {z v : Int32} (h1 : inb (z + 1) L = true) (h2 : inb (z + 2) L = true) (h3 : inb (z + 3) L = true) (hc : fX7_keep G  = some (v, G1)) (hm : fX8_keep G1  = some (v, G2)) (k : J p l e room_1 s m #[Value.ref b] below meth c E (fun q : Nat => s.heap.size ≤ q) s.heap 4 96 4339 Q G2 899 [(0, .ref b), (1, .ref (Ad E 20 0)), (2, .ref (Ad E 22 0)), (3, .int z)] []) : J p l e room_1 s m #[Value.ref b] below meth c E (fun q : Nat => s.heap.size ≤ q) s.heap 4 96 4339 Q G 524 [(0, .ref b), (1, .ref (Ad E 20 0)), (2, .ref (Ad E 22 0)), (3, .int z)] [] := by
  refine j_aload_n (pc := 524) X dL_524 rfl 1 rfl ?_
  refine j_callI (pc := 525) X (tX7_keep l hE G  hc) muX7_keep (by decide) qL502 rfl rfl (Nat.le_of_ble_eq_true rfl) ⟨Nat.le_of_ble_eq_true rfl, Nat.le_of_ble_eq_true rfl⟩ dL_525 ?_
  refine j_aload_n (pc := 528) X dL_528 rfl 2 rfl ?_
  refine j_callI (pc := 529) X (tX8_keep l hE G1  hm) muX8_keep (by decide) qL691 rfl rfl (Nat.le_of_ble_eq_true rfl) ⟨Nat.le_of_ble_eq_true rfl, Nat.le_of_ble_eq_true rfl⟩ dL_529 ?_
  exact j_icmp_eq (pc := 532) (tgt := 899) X dL_532 (by decide) (fun _ => k) (fun hz => absurd rfl hz)
set_option maxHeartbeats 4000000 in
set_option maxRecDepth 100000 in
theorem law_15 {p : Program} {l : Launch} {e : Env} {s : State} {m : MethodId} {below : List Frame} {meth : Method} {c : Code} {E : ET} {Q : State → Prop} {b L : Nat} {xs : Nat → Int32} (X : Cx p room_1 s m #[Value.ref b] c R_law code 4 E (fun q : Nat => s.heap.size ≤ q) 96 4339) (hX : va_X b L xs s s.heap ∧ b < s.heap.size ∧ ¬ (fun q : Nat => s.heap.size ≤ q) b) (hE : Aj E) {G G1 G2 : GT} {z v : Int32} (h1 : inb (z + 1) L = true) (h2 : inb (z + 2) L = true) (h3 : inb (z + 3) L = true) (hc : fX7_restore G  = some (v, G1)) (hm : fX8_restore G1  = some (v, G2)) (k : J p l e room_1 s m #[Value.ref b] below meth c E (fun q : Nat => s.heap.size ≤ q) s.heap 4 96 4339 Q G2 899 [(0, .ref b), (1, .ref (Ad E 20 0)), (2, .ref (Ad E 22 0)), (3, .int z)] []) : J p l e room_1 s m #[Value.ref b] below meth c E (fun q : Nat => s.heap.size ≤ q) s.heap 4 96 4339 Q G 537 [(0, .ref b), (1, .ref (Ad E 20 0)), (2, .ref (Ad E 22 0)), (3, .int z)] [] := by
  refine j_aload_n (pc := 537) X dL_537 rfl 1 rfl ?_
  refine j_callI (pc := 538) X (tX7_restore l hE G  hc) muX7_restore (by decide) qL507 rfl rfl (Nat.le_of_ble_eq_true rfl) ⟨Nat.le_of_ble_eq_true rfl, Nat.le_of_ble_eq_true rfl⟩ dL_538 ?_
  refine j_aload_n (pc := 541) X dL_541 rfl 2 rfl ?_
  refine j_callI (pc := 542) X (tX8_restore l hE G1  hm) muX8_restore (by decide) qL699 rfl rfl (Nat.le_of_ble_eq_true rfl) ⟨Nat.le_of_ble_eq_true rfl, Nat.le_of_ble_eq_true rfl⟩ dL_542 ?_
  exact j_icmp_eq (pc := 545) (tgt := 899) X dL_545 (by decide) (fun _ => k) (fun hz => absurd rfl hz)
set_option maxHeartbeats 4000000 in
set_option maxRecDepth 100000 in
theorem law_16 {p : Program} {l : Launch} {e : Env} {s : State} {m : MethodId} {below : List Frame} {meth : Method} {c : Code} {E : ET} {Q : State → Prop} {b L : Nat} {xs : Nat → Int32} (X : Cx p room_1 s m #[Value.ref b] c R_law code 4 E (fun q : Nat => s.heap.size ≤ q) 96 4339) (hX : va_X b L xs s s.heap ∧ b < s.heap.size ∧ ¬ (fun q : Nat => s.heap.size ≤ q) b) (hE : Aj E) {G G1 G2 : GT} {z v : Int32} (h1 : inb (z + 1) L = true) (h2 : inb (z + 2) L = true) (h3 : inb (z + 3) L = true) (hc : lf1 (fX7_knot G (xs (z + 1).toNatClampNeg) (xs (z + 2).toNatClampNeg)) G = some (v, G1)) (hm : lf1 (fX8_knot G1 (xs (z + 1).toNatClampNeg) (xs (z + 2).toNatClampNeg)) G1 = some (v, G2)) (k : J p l e room_1 s m #[Value.ref b] below meth c E (fun q : Nat => s.heap.size ≤ q) s.heap 4 96 4339 Q G2 899 [(0, .ref b), (1, .ref (Ad E 20 0)), (2, .ref (Ad E 22 0)), (3, .int z)] []) : J p l e room_1 s m #[Value.ref b] below meth c E (fun q : Nat => s.heap.size ≤ q) s.heap 4 96 4339 Q G 550 [(0, .ref b), (1, .ref (Ad E 20 0)), (2, .ref (Ad E 22 0)), (3, .int z)] [] := by
  refine j_aload_n (pc := 550) X dL_550 rfl 1 rfl ?_
  refine j_aload_n (pc := 551) X dL_551 rfl 0 rfl ?_
  refine j_iload_n (pc := 552) X dL_552 rfl 3 rfl ?_
  refine j_iconst (pc := 553) (v := 1) X dL_553 (by decide) ?_
  refine j_iadd (pc := 554) X dL_554 ?_
  refine j_sld (pc := 555) X hX h1 dL_555 ?_
  refine j_aload_n (pc := 556) X dL_556 rfl 0 rfl ?_
  refine j_iload_n (pc := 557) X dL_557 rfl 3 rfl ?_
  refine j_iconst (pc := 558) (v := 2) X dL_558 (by decide) ?_
  refine j_iadd (pc := 559) X dL_559 ?_
  refine j_sld (pc := 560) X hX h2 dL_560 ?_
  obtain ⟨hc2, rfl⟩ := lf1_s hc
  refine j_callI (pc := 561) X (tX7_knot l hE G (xs (z + 1).toNatClampNeg) (xs (z + 2).toNatClampNeg) hc2) muX7_knot (by decide) qL511 rfl rfl (Nat.le_of_ble_eq_true rfl) ⟨Nat.le_of_ble_eq_true rfl, Nat.le_of_ble_eq_true rfl⟩ dL_561 ?_
  refine j_aload_n (pc := 564) X dL_564 rfl 2 rfl ?_
  refine j_aload_n (pc := 565) X dL_565 rfl 0 rfl ?_
  refine j_iload_n (pc := 566) X dL_566 rfl 3 rfl ?_
  refine j_iconst (pc := 567) (v := 1) X dL_567 (by decide) ?_
  refine j_iadd (pc := 568) X dL_568 ?_
  refine j_sld (pc := 569) X hX h1 dL_569 ?_
  refine j_aload_n (pc := 570) X dL_570 rfl 0 rfl ?_
  refine j_iload_n (pc := 571) X dL_571 rfl 3 rfl ?_
  refine j_iconst (pc := 572) (v := 2) X dL_572 (by decide) ?_
  refine j_iadd (pc := 573) X dL_573 ?_
  refine j_sld (pc := 574) X hX h2 dL_574 ?_
  obtain ⟨hm2, rfl⟩ := lf1_s hm
  refine j_callI (pc := 575) X (tX8_knot l hE G (xs (z + 1).toNatClampNeg) (xs (z + 2).toNatClampNeg) hm2) muX8_knot (by decide) qL852 rfl rfl (Nat.le_of_ble_eq_true rfl) ⟨Nat.le_of_ble_eq_true rfl, Nat.le_of_ble_eq_true rfl⟩ dL_575 ?_
  exact j_icmp_eq (pc := 578) (tgt := 899) X dL_578 (by decide) (fun _ => k) (fun hz => absurd rfl hz)
set_option maxHeartbeats 4000000 in
set_option maxRecDepth 100000 in
theorem law_17 {p : Program} {l : Launch} {e : Env} {s : State} {m : MethodId} {below : List Frame} {meth : Method} {c : Code} {E : ET} {Q : State → Prop} {b L : Nat} {xs : Nat → Int32} (X : Cx p room_1 s m #[Value.ref b] c R_law code 4 E (fun q : Nat => s.heap.size ≤ q) 96 4339) (hX : va_X b L xs s s.heap ∧ b < s.heap.size ∧ ¬ (fun q : Nat => s.heap.size ≤ q) b) (hE : Aj E) {G G1 G2 : GT} {z v : Int32} (h1 : inb (z + 1) L = true) (h2 : inb (z + 2) L = true) (h3 : inb (z + 3) L = true) (hc : fX7_run G (xs (z + 1).toNatClampNeg) (xs (z + 2).toNatClampNeg) = some (v, G1)) (hm : lf1 (fX8_run G1 (xs (z + 1).toNatClampNeg) (xs (z + 2).toNatClampNeg)) G1 = some (v, G2)) (k : J p l e room_1 s m #[Value.ref b] below meth c E (fun q : Nat => s.heap.size ≤ q) s.heap 4 96 4339 Q G2 899 [(0, .ref b), (1, .ref (Ad E 20 0)), (2, .ref (Ad E 22 0)), (3, .int z)] []) : J p l e room_1 s m #[Value.ref b] below meth c E (fun q : Nat => s.heap.size ≤ q) s.heap 4 96 4339 Q G 583 [(0, .ref b), (1, .ref (Ad E 20 0)), (2, .ref (Ad E 22 0)), (3, .int z)] [] := by
  refine j_aload_n (pc := 583) X dL_583 rfl 1 rfl ?_
  refine j_aload_n (pc := 584) X dL_584 rfl 0 rfl ?_
  refine j_iload_n (pc := 585) X dL_585 rfl 3 rfl ?_
  refine j_iconst (pc := 586) (v := 1) X dL_586 (by decide) ?_
  refine j_iadd (pc := 587) X dL_587 ?_
  refine j_sld (pc := 588) X hX h1 dL_588 ?_
  refine j_aload_n (pc := 589) X dL_589 rfl 0 rfl ?_
  refine j_iload_n (pc := 590) X dL_590 rfl 3 rfl ?_
  refine j_iconst (pc := 591) (v := 2) X dL_591 (by decide) ?_
  refine j_iadd (pc := 592) X dL_592 ?_
  refine j_sld (pc := 593) X hX h2 dL_593 ?_
  refine j_callI (pc := 594) X (tX7_run l hE G (xs (z + 1).toNatClampNeg) (xs (z + 2).toNatClampNeg) hc) muX7_run (by decide) qL520 rfl rfl (Nat.le_of_ble_eq_true rfl) ⟨Nat.le_of_ble_eq_true rfl, Nat.le_of_ble_eq_true rfl⟩ dL_594 ?_
  refine j_aload_n (pc := 597) X dL_597 rfl 2 rfl ?_
  refine j_aload_n (pc := 598) X dL_598 rfl 0 rfl ?_
  refine j_iload_n (pc := 599) X dL_599 rfl 3 rfl ?_
  refine j_iconst (pc := 600) (v := 1) X dL_600 (by decide) ?_
  refine j_iadd (pc := 601) X dL_601 ?_
  refine j_sld (pc := 602) X hX h1 dL_602 ?_
  refine j_aload_n (pc := 603) X dL_603 rfl 0 rfl ?_
  refine j_iload_n (pc := 604) X dL_604 rfl 3 rfl ?_
  refine j_iconst (pc := 605) (v := 2) X dL_605 (by decide) ?_
  refine j_iadd (pc := 606) X dL_606 ?_
  refine j_sld (pc := 607) X hX h2 dL_607 ?_
  obtain ⟨hm2, rfl⟩ := lf1_s hm
  refine j_callI (pc := 608) X (tX8_run l hE G1 (xs (z + 1).toNatClampNeg) (xs (z + 2).toNatClampNeg) hm2) muX8_run (by decide) qL860 rfl rfl (Nat.le_of_ble_eq_true rfl) ⟨Nat.le_of_ble_eq_true rfl, Nat.le_of_ble_eq_true rfl⟩ dL_608 ?_
  exact j_icmp_eq (pc := 611) (tgt := 899) X dL_611 (by decide) (fun _ => k) (fun hz => absurd rfl hz)
set_option maxHeartbeats 4000000 in
set_option maxRecDepth 100000 in
theorem law_18 {p : Program} {l : Launch} {e : Env} {s : State} {m : MethodId} {below : List Frame} {meth : Method} {c : Code} {E : ET} {Q : State → Prop} {b L : Nat} {xs : Nat → Int32} (X : Cx p room_1 s m #[Value.ref b] c R_law code 4 E (fun q : Nat => s.heap.size ≤ q) 96 4339) (hX : va_X b L xs s s.heap ∧ b < s.heap.size ∧ ¬ (fun q : Nat => s.heap.size ≤ q) b) (hE : Aj E) {G G1 G2 : GT} {z v : Int32} (h1 : inb (z + 1) L = true) (h2 : inb (z + 2) L = true) (h3 : inb (z + 3) L = true) (hc : fX7_splits G (xs (z + 1).toNatClampNeg) = some (v, G1)) (hm : fX8_splits G1 (xs (z + 1).toNatClampNeg) = some (v, G2)) (k : J p l e room_1 s m #[Value.ref b] below meth c E (fun q : Nat => s.heap.size ≤ q) s.heap 4 96 4339 Q G2 899 [(0, .ref b), (1, .ref (Ad E 20 0)), (2, .ref (Ad E 22 0)), (3, .int z)] []) : J p l e room_1 s m #[Value.ref b] below meth c E (fun q : Nat => s.heap.size ≤ q) s.heap 4 96 4339 Q G 616 [(0, .ref b), (1, .ref (Ad E 20 0)), (2, .ref (Ad E 22 0)), (3, .int z)] [] := by
  refine j_aload_n (pc := 616) X dL_616 rfl 1 rfl ?_
  refine j_aload_n (pc := 617) X dL_617 rfl 0 rfl ?_
  refine j_iload_n (pc := 618) X dL_618 rfl 3 rfl ?_
  refine j_iconst (pc := 619) (v := 1) X dL_619 (by decide) ?_
  refine j_iadd (pc := 620) X dL_620 ?_
  refine j_sld (pc := 621) X hX h1 dL_621 ?_
  refine j_callI (pc := 622) X (tX7_splits l hE G (xs (z + 1).toNatClampNeg) hc) muX7_splits (by decide) qL538 rfl rfl (Nat.le_of_ble_eq_true rfl) ⟨Nat.le_of_ble_eq_true rfl, Nat.le_of_ble_eq_true rfl⟩ dL_622 ?_
  refine j_aload_n (pc := 625) X dL_625 rfl 2 rfl ?_
  refine j_aload_n (pc := 626) X dL_626 rfl 0 rfl ?_
  refine j_iload_n (pc := 627) X dL_627 rfl 3 rfl ?_
  refine j_iconst (pc := 628) (v := 1) X dL_628 (by decide) ?_
  refine j_iadd (pc := 629) X dL_629 ?_
  refine j_sld (pc := 630) X hX h1 dL_630 ?_
  refine j_callI (pc := 631) X (tX8_splits l hE G1 (xs (z + 1).toNatClampNeg) hm) muX8_splits (by decide) qL880 rfl rfl (Nat.le_of_ble_eq_true rfl) ⟨Nat.le_of_ble_eq_true rfl, Nat.le_of_ble_eq_true rfl⟩ dL_631 ?_
  exact j_icmp_eq (pc := 634) (tgt := 899) X dL_634 (by decide) (fun _ => k) (fun hz => absurd rfl hz)
set_option maxHeartbeats 4000000 in
set_option maxRecDepth 100000 in
theorem law_19 {p : Program} {l : Launch} {e : Env} {s : State} {m : MethodId} {below : List Frame} {meth : Method} {c : Code} {E : ET} {Q : State → Prop} {b L : Nat} {xs : Nat → Int32} (X : Cx p room_1 s m #[Value.ref b] c R_law code 4 E (fun q : Nat => s.heap.size ≤ q) 96 4339) (hX : va_X b L xs s s.heap ∧ b < s.heap.size ∧ ¬ (fun q : Nat => s.heap.size ≤ q) b) (hE : Aj E) {G G1 G2 : GT} {z v : Int32} (h1 : inb (z + 1) L = true) (h2 : inb (z + 2) L = true) (h3 : inb (z + 3) L = true) (hc : fX7_splitsBack G (xs (z + 1).toNatClampNeg) = some (v, G1)) (hm : fX8_splitsBack G1 (xs (z + 1).toNatClampNeg) = some (v, G2)) (k : J p l e room_1 s m #[Value.ref b] below meth c E (fun q : Nat => s.heap.size ≤ q) s.heap 4 96 4339 Q G2 899 [(0, .ref b), (1, .ref (Ad E 20 0)), (2, .ref (Ad E 22 0)), (3, .int z)] []) : J p l e room_1 s m #[Value.ref b] below meth c E (fun q : Nat => s.heap.size ≤ q) s.heap 4 96 4339 Q G 639 [(0, .ref b), (1, .ref (Ad E 20 0)), (2, .ref (Ad E 22 0)), (3, .int z)] [] := by
  refine j_aload_n (pc := 639) X dL_639 rfl 1 rfl ?_
  refine j_aload_n (pc := 640) X dL_640 rfl 0 rfl ?_
  refine j_iload_n (pc := 641) X dL_641 rfl 3 rfl ?_
  refine j_iconst (pc := 642) (v := 1) X dL_642 (by decide) ?_
  refine j_iadd (pc := 643) X dL_643 ?_
  refine j_sld (pc := 644) X hX h1 dL_644 ?_
  refine j_callI (pc := 645) X (tX7_splitsBack l hE G (xs (z + 1).toNatClampNeg) hc) muX7_splitsBack (by decide) qL549 rfl rfl (Nat.le_of_ble_eq_true rfl) ⟨Nat.le_of_ble_eq_true rfl, Nat.le_of_ble_eq_true rfl⟩ dL_645 ?_
  refine j_aload_n (pc := 648) X dL_648 rfl 2 rfl ?_
  refine j_aload_n (pc := 649) X dL_649 rfl 0 rfl ?_
  refine j_iload_n (pc := 650) X dL_650 rfl 3 rfl ?_
  refine j_iconst (pc := 651) (v := 1) X dL_651 (by decide) ?_
  refine j_iadd (pc := 652) X dL_652 ?_
  refine j_sld (pc := 653) X hX h1 dL_653 ?_
  refine j_callI (pc := 654) X (tX8_splitsBack l hE G1 (xs (z + 1).toNatClampNeg) hm) muX8_splitsBack (by decide) qL888 rfl rfl (Nat.le_of_ble_eq_true rfl) ⟨Nat.le_of_ble_eq_true rfl, Nat.le_of_ble_eq_true rfl⟩ dL_654 ?_
  exact j_icmp_eq (pc := 657) (tgt := 899) X dL_657 (by decide) (fun _ => k) (fun hz => absurd rfl hz)
set_option maxHeartbeats 4000000 in
set_option maxRecDepth 100000 in
theorem law_20 {p : Program} {l : Launch} {e : Env} {s : State} {m : MethodId} {below : List Frame} {meth : Method} {c : Code} {E : ET} {Q : State → Prop} {b L : Nat} {xs : Nat → Int32} (X : Cx p room_1 s m #[Value.ref b] c R_law code 4 E (fun q : Nat => s.heap.size ≤ q) 96 4339) (hX : va_X b L xs s s.heap ∧ b < s.heap.size ∧ ¬ (fun q : Nat => s.heap.size ≤ q) b) (hE : Aj E) {G G1 G2 : GT} {z v : Int32} (h1 : inb (z + 1) L = true) (h2 : inb (z + 2) L = true) (h3 : inb (z + 3) L = true) (hc : fX7_nearest G (xs (z + 1).toNatClampNeg) (xs (z + 2).toNatClampNeg) = some (v, G1)) (hm : lf1 (fX8_nearest G1 (xs (z + 1).toNatClampNeg) (xs (z + 2).toNatClampNeg)) G1 = some (v, G2)) (k : J p l e room_1 s m #[Value.ref b] below meth c E (fun q : Nat => s.heap.size ≤ q) s.heap 4 96 4339 Q G2 899 [(0, .ref b), (1, .ref (Ad E 20 0)), (2, .ref (Ad E 22 0)), (3, .int z)] []) : J p l e room_1 s m #[Value.ref b] below meth c E (fun q : Nat => s.heap.size ≤ q) s.heap 4 96 4339 Q G 662 [(0, .ref b), (1, .ref (Ad E 20 0)), (2, .ref (Ad E 22 0)), (3, .int z)] [] := by
  refine j_aload_n (pc := 662) X dL_662 rfl 1 rfl ?_
  refine j_aload_n (pc := 663) X dL_663 rfl 0 rfl ?_
  refine j_iload_n (pc := 664) X dL_664 rfl 3 rfl ?_
  refine j_iconst (pc := 665) (v := 1) X dL_665 (by decide) ?_
  refine j_iadd (pc := 666) X dL_666 ?_
  refine j_sld (pc := 667) X hX h1 dL_667 ?_
  refine j_aload_n (pc := 668) X dL_668 rfl 0 rfl ?_
  refine j_iload_n (pc := 669) X dL_669 rfl 3 rfl ?_
  refine j_iconst (pc := 670) (v := 2) X dL_670 (by decide) ?_
  refine j_iadd (pc := 671) X dL_671 ?_
  refine j_sld (pc := 672) X hX h2 dL_672 ?_
  refine j_callI (pc := 673) X (tX7_nearest l hE G (xs (z + 1).toNatClampNeg) (xs (z + 2).toNatClampNeg) hc) muX7_nearest (by decide) qL557 rfl rfl (Nat.le_of_ble_eq_true rfl) ⟨Nat.le_of_ble_eq_true rfl, Nat.le_of_ble_eq_true rfl⟩ dL_673 ?_
  refine j_aload_n (pc := 676) X dL_676 rfl 2 rfl ?_
  refine j_aload_n (pc := 677) X dL_677 rfl 0 rfl ?_
  refine j_iload_n (pc := 678) X dL_678 rfl 3 rfl ?_
  refine j_iconst (pc := 679) (v := 1) X dL_679 (by decide) ?_
  refine j_iadd (pc := 680) X dL_680 ?_
  refine j_sld (pc := 681) X hX h1 dL_681 ?_
  refine j_aload_n (pc := 682) X dL_682 rfl 0 rfl ?_
  refine j_iload_n (pc := 683) X dL_683 rfl 3 rfl ?_
  refine j_iconst (pc := 684) (v := 2) X dL_684 (by decide) ?_
  refine j_iadd (pc := 685) X dL_685 ?_
  refine j_sld (pc := 686) X hX h2 dL_686 ?_
  obtain ⟨hm2, rfl⟩ := lf1_s hm
  refine j_callI (pc := 687) X (tX8_nearest l hE G1 (xs (z + 1).toNatClampNeg) (xs (z + 2).toNatClampNeg) hm2) muX8_nearest (by decide) qL892 rfl rfl (Nat.le_of_ble_eq_true rfl) ⟨Nat.le_of_ble_eq_true rfl, Nat.le_of_ble_eq_true rfl⟩ dL_687 ?_
  exact j_icmp_eq (pc := 690) (tgt := 899) X dL_690 (by decide) (fun _ => k) (fun hz => absurd rfl hz)
set_option maxHeartbeats 4000000 in
set_option maxRecDepth 100000 in
theorem law_21 {p : Program} {l : Launch} {e : Env} {s : State} {m : MethodId} {below : List Frame} {meth : Method} {c : Code} {E : ET} {Q : State → Prop} {b L : Nat} {xs : Nat → Int32} (X : Cx p room_1 s m #[Value.ref b] c R_law code 4 E (fun q : Nat => s.heap.size ≤ q) 96 4339) (hX : va_X b L xs s s.heap ∧ b < s.heap.size ∧ ¬ (fun q : Nat => s.heap.size ≤ q) b) (hE : Aj E) {G G1 G2 : GT} {z v : Int32} (h1 : inb (z + 1) L = true) (h2 : inb (z + 2) L = true) (h3 : inb (z + 3) L = true) (hc : fX7_word G (xs (z + 1).toNatClampNeg) (xs (z + 2).toNatClampNeg) = some (v, G1)) (hm : lf1 (fX8_word G1 (xs (z + 1).toNatClampNeg) (xs (z + 2).toNatClampNeg)) G1 = some (v, G2)) (k : J p l e room_1 s m #[Value.ref b] below meth c E (fun q : Nat => s.heap.size ≤ q) s.heap 4 96 4339 Q G2 899 [(0, .ref b), (1, .ref (Ad E 20 0)), (2, .ref (Ad E 22 0)), (3, .int z)] []) : J p l e room_1 s m #[Value.ref b] below meth c E (fun q : Nat => s.heap.size ≤ q) s.heap 4 96 4339 Q G 695 [(0, .ref b), (1, .ref (Ad E 20 0)), (2, .ref (Ad E 22 0)), (3, .int z)] [] := by
  refine j_aload_n (pc := 695) X dL_695 rfl 1 rfl ?_
  refine j_aload_n (pc := 696) X dL_696 rfl 0 rfl ?_
  refine j_iload_n (pc := 697) X dL_697 rfl 3 rfl ?_
  refine j_iconst (pc := 698) (v := 1) X dL_698 (by decide) ?_
  refine j_iadd (pc := 699) X dL_699 ?_
  refine j_sld (pc := 700) X hX h1 dL_700 ?_
  refine j_aload_n (pc := 701) X dL_701 rfl 0 rfl ?_
  refine j_iload_n (pc := 702) X dL_702 rfl 3 rfl ?_
  refine j_iconst (pc := 703) (v := 2) X dL_703 (by decide) ?_
  refine j_iadd (pc := 704) X dL_704 ?_
  refine j_sld (pc := 705) X hX h2 dL_705 ?_
  refine j_callI (pc := 706) X (tX7_word l hE G (xs (z + 1).toNatClampNeg) (xs (z + 2).toNatClampNeg) hc) muX7_word (by decide) qL569 rfl rfl (Nat.le_of_ble_eq_true rfl) ⟨Nat.le_of_ble_eq_true rfl, Nat.le_of_ble_eq_true rfl⟩ dL_706 ?_
  refine j_aload_n (pc := 709) X dL_709 rfl 2 rfl ?_
  refine j_aload_n (pc := 710) X dL_710 rfl 0 rfl ?_
  refine j_iload_n (pc := 711) X dL_711 rfl 3 rfl ?_
  refine j_iconst (pc := 712) (v := 1) X dL_712 (by decide) ?_
  refine j_iadd (pc := 713) X dL_713 ?_
  refine j_sld (pc := 714) X hX h1 dL_714 ?_
  refine j_aload_n (pc := 715) X dL_715 rfl 0 rfl ?_
  refine j_iload_n (pc := 716) X dL_716 rfl 3 rfl ?_
  refine j_iconst (pc := 717) (v := 2) X dL_717 (by decide) ?_
  refine j_iadd (pc := 718) X dL_718 ?_
  refine j_sld (pc := 719) X hX h2 dL_719 ?_
  obtain ⟨hm2, rfl⟩ := lf1_s hm
  refine j_callI (pc := 720) X (tX8_word l hE G1 (xs (z + 1).toNatClampNeg) (xs (z + 2).toNatClampNeg) hm2) muX8_word (by decide) qL900 rfl rfl (Nat.le_of_ble_eq_true rfl) ⟨Nat.le_of_ble_eq_true rfl, Nat.le_of_ble_eq_true rfl⟩ dL_720 ?_
  exact j_icmp_eq (pc := 723) (tgt := 899) X dL_723 (by decide) (fun _ => k) (fun hz => absurd rfl hz)
set_option maxHeartbeats 4000000 in
set_option maxRecDepth 100000 in
theorem law_22 {p : Program} {l : Launch} {e : Env} {s : State} {m : MethodId} {below : List Frame} {meth : Method} {c : Code} {E : ET} {Q : State → Prop} {b L : Nat} {xs : Nat → Int32} (X : Cx p room_1 s m #[Value.ref b] c R_law code 4 E (fun q : Nat => s.heap.size ≤ q) 96 4339) (hX : va_X b L xs s s.heap ∧ b < s.heap.size ∧ ¬ (fun q : Nat => s.heap.size ≤ q) b) (hE : Aj E) {G G1 G2 : GT} {z v : Int32} (h1 : inb (z + 1) L = true) (h2 : inb (z + 2) L = true) (h3 : inb (z + 3) L = true) (hc : fX7_learner G (xs (z + 1).toNatClampNeg) (xs (z + 2).toNatClampNeg) = some (v, G1)) (hm : lf1 (fX8_learner G1 (xs (z + 1).toNatClampNeg) (xs (z + 2).toNatClampNeg)) G1 = some (v, G2)) (k : J p l e room_1 s m #[Value.ref b] below meth c E (fun q : Nat => s.heap.size ≤ q) s.heap 4 96 4339 Q G2 899 [(0, .ref b), (1, .ref (Ad E 20 0)), (2, .ref (Ad E 22 0)), (3, .int z)] []) : J p l e room_1 s m #[Value.ref b] below meth c E (fun q : Nat => s.heap.size ≤ q) s.heap 4 96 4339 Q G 728 [(0, .ref b), (1, .ref (Ad E 20 0)), (2, .ref (Ad E 22 0)), (3, .int z)] [] := by
  refine j_aload_n (pc := 728) X dL_728 rfl 1 rfl ?_
  refine j_aload_n (pc := 729) X dL_729 rfl 0 rfl ?_
  refine j_iload_n (pc := 730) X dL_730 rfl 3 rfl ?_
  refine j_iconst (pc := 731) (v := 1) X dL_731 (by decide) ?_
  refine j_iadd (pc := 732) X dL_732 ?_
  refine j_sld (pc := 733) X hX h1 dL_733 ?_
  refine j_aload_n (pc := 734) X dL_734 rfl 0 rfl ?_
  refine j_iload_n (pc := 735) X dL_735 rfl 3 rfl ?_
  refine j_iconst (pc := 736) (v := 2) X dL_736 (by decide) ?_
  refine j_iadd (pc := 737) X dL_737 ?_
  refine j_sld (pc := 738) X hX h2 dL_738 ?_
  refine j_callI (pc := 739) X (tX7_learner l hE G (xs (z + 1).toNatClampNeg) (xs (z + 2).toNatClampNeg) hc) muX7_learner (by decide) qL583 rfl rfl (Nat.le_of_ble_eq_true rfl) ⟨Nat.le_of_ble_eq_true rfl, Nat.le_of_ble_eq_true rfl⟩ dL_739 ?_
  refine j_aload_n (pc := 742) X dL_742 rfl 2 rfl ?_
  refine j_aload_n (pc := 743) X dL_743 rfl 0 rfl ?_
  refine j_iload_n (pc := 744) X dL_744 rfl 3 rfl ?_
  refine j_iconst (pc := 745) (v := 1) X dL_745 (by decide) ?_
  refine j_iadd (pc := 746) X dL_746 ?_
  refine j_sld (pc := 747) X hX h1 dL_747 ?_
  refine j_aload_n (pc := 748) X dL_748 rfl 0 rfl ?_
  refine j_iload_n (pc := 749) X dL_749 rfl 3 rfl ?_
  refine j_iconst (pc := 750) (v := 2) X dL_750 (by decide) ?_
  refine j_iadd (pc := 751) X dL_751 ?_
  refine j_sld (pc := 752) X hX h2 dL_752 ?_
  obtain ⟨hm2, rfl⟩ := lf1_s hm
  refine j_callI (pc := 753) X (tX8_learner l hE G1 (xs (z + 1).toNatClampNeg) (xs (z + 2).toNatClampNeg) hm2) muX8_learner (by decide) qL908 rfl rfl (Nat.le_of_ble_eq_true rfl) ⟨Nat.le_of_ble_eq_true rfl, Nat.le_of_ble_eq_true rfl⟩ dL_753 ?_
  exact j_icmp_eq (pc := 756) (tgt := 899) X dL_756 (by decide) (fun _ => k) (fun hz => absurd rfl hz)
set_option maxHeartbeats 4000000 in
set_option maxRecDepth 100000 in
theorem law_23 {p : Program} {l : Launch} {e : Env} {s : State} {m : MethodId} {below : List Frame} {meth : Method} {c : Code} {E : ET} {Q : State → Prop} {b L : Nat} {xs : Nat → Int32} (X : Cx p room_1 s m #[Value.ref b] c R_law code 4 E (fun q : Nat => s.heap.size ≤ q) 96 4339) (hX : va_X b L xs s s.heap ∧ b < s.heap.size ∧ ¬ (fun q : Nat => s.heap.size ≤ q) b) (hE : Aj E) {G G1 G2 : GT} {z v : Int32} (h1 : inb (z + 1) L = true) (h2 : inb (z + 2) L = true) (h3 : inb (z + 3) L = true) (hc : lf1 (fX7_heard G (xs (z + 1).toNatClampNeg) (xs (z + 2).toNatClampNeg)) G = some (v, G1)) (hm : lf1 (fX8_heard G1 (xs (z + 1).toNatClampNeg) (xs (z + 2).toNatClampNeg)) G1 = some (v, G2)) (k : J p l e room_1 s m #[Value.ref b] below meth c E (fun q : Nat => s.heap.size ≤ q) s.heap 4 96 4339 Q G2 899 [(0, .ref b), (1, .ref (Ad E 20 0)), (2, .ref (Ad E 22 0)), (3, .int z)] []) : J p l e room_1 s m #[Value.ref b] below meth c E (fun q : Nat => s.heap.size ≤ q) s.heap 4 96 4339 Q G 761 [(0, .ref b), (1, .ref (Ad E 20 0)), (2, .ref (Ad E 22 0)), (3, .int z)] [] := by
  refine j_aload_n (pc := 761) X dL_761 rfl 1 rfl ?_
  refine j_aload_n (pc := 762) X dL_762 rfl 0 rfl ?_
  refine j_iload_n (pc := 763) X dL_763 rfl 3 rfl ?_
  refine j_iconst (pc := 764) (v := 1) X dL_764 (by decide) ?_
  refine j_iadd (pc := 765) X dL_765 ?_
  refine j_sld (pc := 766) X hX h1 dL_766 ?_
  refine j_aload_n (pc := 767) X dL_767 rfl 0 rfl ?_
  refine j_iload_n (pc := 768) X dL_768 rfl 3 rfl ?_
  refine j_iconst (pc := 769) (v := 2) X dL_769 (by decide) ?_
  refine j_iadd (pc := 770) X dL_770 ?_
  refine j_sld (pc := 771) X hX h2 dL_771 ?_
  obtain ⟨hc2, rfl⟩ := lf1_s hc
  refine j_callI (pc := 772) X (tX7_heard l hE G (xs (z + 1).toNatClampNeg) (xs (z + 2).toNatClampNeg) hc2) muX7_heard (by decide) qL599 rfl rfl (Nat.le_of_ble_eq_true rfl) ⟨Nat.le_of_ble_eq_true rfl, Nat.le_of_ble_eq_true rfl⟩ dL_772 ?_
  refine j_aload_n (pc := 775) X dL_775 rfl 2 rfl ?_
  refine j_aload_n (pc := 776) X dL_776 rfl 0 rfl ?_
  refine j_iload_n (pc := 777) X dL_777 rfl 3 rfl ?_
  refine j_iconst (pc := 778) (v := 1) X dL_778 (by decide) ?_
  refine j_iadd (pc := 779) X dL_779 ?_
  refine j_sld (pc := 780) X hX h1 dL_780 ?_
  refine j_aload_n (pc := 781) X dL_781 rfl 0 rfl ?_
  refine j_iload_n (pc := 782) X dL_782 rfl 3 rfl ?_
  refine j_iconst (pc := 783) (v := 2) X dL_783 (by decide) ?_
  refine j_iadd (pc := 784) X dL_784 ?_
  refine j_sld (pc := 785) X hX h2 dL_785 ?_
  obtain ⟨hm2, rfl⟩ := lf1_s hm
  refine j_callI (pc := 786) X (tX8_heard l hE G (xs (z + 1).toNatClampNeg) (xs (z + 2).toNatClampNeg) hm2) muX8_heard (by decide) qL916 rfl rfl (Nat.le_of_ble_eq_true rfl) ⟨Nat.le_of_ble_eq_true rfl, Nat.le_of_ble_eq_true rfl⟩ dL_786 ?_
  exact j_icmp_eq (pc := 789) (tgt := 899) X dL_789 (by decide) (fun _ => k) (fun hz => absurd rfl hz)
set_option maxHeartbeats 4000000 in
set_option maxRecDepth 100000 in
theorem law_24 {p : Program} {l : Launch} {e : Env} {s : State} {m : MethodId} {below : List Frame} {meth : Method} {c : Code} {E : ET} {Q : State → Prop} {b L : Nat} {xs : Nat → Int32} (X : Cx p room_1 s m #[Value.ref b] c R_law code 4 E (fun q : Nat => s.heap.size ≤ q) 96 4339) (hX : va_X b L xs s s.heap ∧ b < s.heap.size ∧ ¬ (fun q : Nat => s.heap.size ≤ q) b) (hE : Aj E) {G G1 G2 : GT} {z v : Int32} (h1 : inb (z + 1) L = true) (h2 : inb (z + 2) L = true) (h3 : inb (z + 3) L = true) (hc : fX7_reason G (xs (z + 1).toNatClampNeg) = some (v, G1)) (hm : lf1 (fX8_reason G1 (xs (z + 1).toNatClampNeg)) G1 = some (v, G2)) (k : J p l e room_1 s m #[Value.ref b] below meth c E (fun q : Nat => s.heap.size ≤ q) s.heap 4 96 4339 Q G2 899 [(0, .ref b), (1, .ref (Ad E 20 0)), (2, .ref (Ad E 22 0)), (3, .int z)] []) : J p l e room_1 s m #[Value.ref b] below meth c E (fun q : Nat => s.heap.size ≤ q) s.heap 4 96 4339 Q G 794 [(0, .ref b), (1, .ref (Ad E 20 0)), (2, .ref (Ad E 22 0)), (3, .int z)] [] := by
  refine j_aload_n (pc := 794) X dL_794 rfl 1 rfl ?_
  refine j_aload_n (pc := 795) X dL_795 rfl 0 rfl ?_
  refine j_iload_n (pc := 796) X dL_796 rfl 3 rfl ?_
  refine j_iconst (pc := 797) (v := 1) X dL_797 (by decide) ?_
  refine j_iadd (pc := 798) X dL_798 ?_
  refine j_sld (pc := 799) X hX h1 dL_799 ?_
  refine j_callI (pc := 800) X (tX7_reason l hE G (xs (z + 1).toNatClampNeg) hc) muX7_reason (by decide) qL603 rfl rfl (Nat.le_of_ble_eq_true rfl) ⟨Nat.le_of_ble_eq_true rfl, Nat.le_of_ble_eq_true rfl⟩ dL_800 ?_
  refine j_aload_n (pc := 803) X dL_803 rfl 2 rfl ?_
  refine j_aload_n (pc := 804) X dL_804 rfl 0 rfl ?_
  refine j_iload_n (pc := 805) X dL_805 rfl 3 rfl ?_
  refine j_iconst (pc := 806) (v := 1) X dL_806 (by decide) ?_
  refine j_iadd (pc := 807) X dL_807 ?_
  refine j_sld (pc := 808) X hX h1 dL_808 ?_
  obtain ⟨hm2, rfl⟩ := lf1_s hm
  refine j_callI (pc := 809) X (tX8_reason l hE G1 (xs (z + 1).toNatClampNeg) hm2) muX8_reason (by decide) qL920 rfl rfl (Nat.le_of_ble_eq_true rfl) ⟨Nat.le_of_ble_eq_true rfl, Nat.le_of_ble_eq_true rfl⟩ dL_809 ?_
  exact j_icmp_eq (pc := 812) (tgt := 899) X dL_812 (by decide) (fun _ => k) (fun hz => absurd rfl hz)
set_option maxHeartbeats 4000000 in
set_option maxRecDepth 100000 in
theorem law_25 {p : Program} {l : Launch} {e : Env} {s : State} {m : MethodId} {below : List Frame} {meth : Method} {c : Code} {E : ET} {Q : State → Prop} {b L : Nat} {xs : Nat → Int32} (X : Cx p room_1 s m #[Value.ref b] c R_law code 4 E (fun q : Nat => s.heap.size ≤ q) 96 4339) (hX : va_X b L xs s s.heap ∧ b < s.heap.size ∧ ¬ (fun q : Nat => s.heap.size ≤ q) b) (hE : Aj E) {G G1 G2 : GT} {z v : Int32} (h1 : inb (z + 1) L = true) (h2 : inb (z + 2) L = true) (h3 : inb (z + 3) L = true) (hc : fX7_ifPulled G (xs (z + 1).toNatClampNeg) (xs (z + 2).toNatClampNeg) = some (v, G1)) (hm : fX8_ifPulled G1 (xs (z + 1).toNatClampNeg) (xs (z + 2).toNatClampNeg) = some (v, G2)) (k : J p l e room_1 s m #[Value.ref b] below meth c E (fun q : Nat => s.heap.size ≤ q) s.heap 4 96 4339 Q G2 899 [(0, .ref b), (1, .ref (Ad E 20 0)), (2, .ref (Ad E 22 0)), (3, .int z)] []) : J p l e room_1 s m #[Value.ref b] below meth c E (fun q : Nat => s.heap.size ≤ q) s.heap 4 96 4339 Q G 817 [(0, .ref b), (1, .ref (Ad E 20 0)), (2, .ref (Ad E 22 0)), (3, .int z)] [] := by
  refine j_aload_n (pc := 817) X dL_817 rfl 1 rfl ?_
  refine j_aload_n (pc := 818) X dL_818 rfl 0 rfl ?_
  refine j_iload_n (pc := 819) X dL_819 rfl 3 rfl ?_
  refine j_iconst (pc := 820) (v := 1) X dL_820 (by decide) ?_
  refine j_iadd (pc := 821) X dL_821 ?_
  refine j_sld (pc := 822) X hX h1 dL_822 ?_
  refine j_aload_n (pc := 823) X dL_823 rfl 0 rfl ?_
  refine j_iload_n (pc := 824) X dL_824 rfl 3 rfl ?_
  refine j_iconst (pc := 825) (v := 2) X dL_825 (by decide) ?_
  refine j_iadd (pc := 826) X dL_826 ?_
  refine j_sld (pc := 827) X hX h2 dL_827 ?_
  refine j_callI (pc := 828) X (tX7_ifPulled l hE G (xs (z + 1).toNatClampNeg) (xs (z + 2).toNatClampNeg) hc) muX7_ifPulled (by decide) qL607 rfl rfl (Nat.le_of_ble_eq_true rfl) ⟨Nat.le_of_ble_eq_true rfl, Nat.le_of_ble_eq_true rfl⟩ dL_828 ?_
  refine j_aload_n (pc := 831) X dL_831 rfl 2 rfl ?_
  refine j_aload_n (pc := 832) X dL_832 rfl 0 rfl ?_
  refine j_iload_n (pc := 833) X dL_833 rfl 3 rfl ?_
  refine j_iconst (pc := 834) (v := 1) X dL_834 (by decide) ?_
  refine j_iadd (pc := 835) X dL_835 ?_
  refine j_sld (pc := 836) X hX h1 dL_836 ?_
  refine j_aload_n (pc := 837) X dL_837 rfl 0 rfl ?_
  refine j_iload_n (pc := 838) X dL_838 rfl 3 rfl ?_
  refine j_iconst (pc := 839) (v := 2) X dL_839 (by decide) ?_
  refine j_iadd (pc := 840) X dL_840 ?_
  refine j_sld (pc := 841) X hX h2 dL_841 ?_
  refine j_callI (pc := 842) X (tX8_ifPulled l hE G1 (xs (z + 1).toNatClampNeg) (xs (z + 2).toNatClampNeg) hm) muX8_ifPulled (by decide) qL924 rfl rfl (Nat.le_of_ble_eq_true rfl) ⟨Nat.le_of_ble_eq_true rfl, Nat.le_of_ble_eq_true rfl⟩ dL_842 ?_
  exact j_icmp_eq (pc := 845) (tgt := 899) X dL_845 (by decide) (fun _ => k) (fun hz => absurd rfl hz)
set_option maxHeartbeats 4000000 in
set_option maxRecDepth 100000 in
theorem law_26 {p : Program} {l : Launch} {e : Env} {s : State} {m : MethodId} {below : List Frame} {meth : Method} {c : Code} {E : ET} {Q : State → Prop} {b L : Nat} {xs : Nat → Int32} (X : Cx p room_1 s m #[Value.ref b] c R_law code 4 E (fun q : Nat => s.heap.size ≤ q) 96 4339) (hX : va_X b L xs s s.heap ∧ b < s.heap.size ∧ ¬ (fun q : Nat => s.heap.size ≤ q) b) (hE : Aj E) {G G1 G2 : GT} {z v : Int32} (h1 : inb (z + 1) L = true) (h2 : inb (z + 2) L = true) (h3 : inb (z + 3) L = true) (hc : fX7_safePull G  = some (v, G1)) (hm : fX8_safePull G1  = some (v, G2)) (k : J p l e room_1 s m #[Value.ref b] below meth c E (fun q : Nat => s.heap.size ≤ q) s.heap 4 96 4339 Q G2 899 [(0, .ref b), (1, .ref (Ad E 20 0)), (2, .ref (Ad E 22 0)), (3, .int z)] []) : J p l e room_1 s m #[Value.ref b] below meth c E (fun q : Nat => s.heap.size ≤ q) s.heap 4 96 4339 Q G 850 [(0, .ref b), (1, .ref (Ad E 20 0)), (2, .ref (Ad E 22 0)), (3, .int z)] [] := by
  refine j_aload_n (pc := 850) X dL_850 rfl 1 rfl ?_
  refine j_callI (pc := 851) X (tX7_safePull l hE G  hc) muX7_safePull (by decide) qL611 rfl rfl (Nat.le_of_ble_eq_true rfl) ⟨Nat.le_of_ble_eq_true rfl, Nat.le_of_ble_eq_true rfl⟩ dL_851 ?_
  refine j_aload_n (pc := 854) X dL_854 rfl 2 rfl ?_
  refine j_callI (pc := 855) X (tX8_safePull l hE G1  hm) muX8_safePull (by decide) qL928 rfl rfl (Nat.le_of_ble_eq_true rfl) ⟨Nat.le_of_ble_eq_true rfl, Nat.le_of_ble_eq_true rfl⟩ dL_855 ?_
  exact j_icmp_eq (pc := 858) (tgt := 899) X dL_858 (by decide) (fun _ => k) (fun hz => absurd rfl hz)
set_option maxHeartbeats 4000000 in
set_option maxRecDepth 100000 in
theorem law_27 {p : Program} {l : Launch} {e : Env} {s : State} {m : MethodId} {below : List Frame} {meth : Method} {c : Code} {E : ET} {Q : State → Prop} {b L : Nat} {xs : Nat → Int32} (X : Cx p room_1 s m #[Value.ref b] c R_law code 4 E (fun q : Nat => s.heap.size ≤ q) 96 4339) (hX : va_X b L xs s s.heap ∧ b < s.heap.size ∧ ¬ (fun q : Nat => s.heap.size ≤ q) b) (hE : Aj E) {G G1 G2 : GT} {z v : Int32} (h1 : inb (z + 1) L = true) (h2 : inb (z + 2) L = true) (h3 : inb (z + 3) L = true) (hc : fX7_allRightIn G  = some (v, G1)) (hm : lf1 (fX8_allRightIn G1 ) G1 = some (v, G2)) (k : J p l e room_1 s m #[Value.ref b] below meth c E (fun q : Nat => s.heap.size ≤ q) s.heap 4 96 4339 Q G2 899 [(0, .ref b), (1, .ref (Ad E 20 0)), (2, .ref (Ad E 22 0)), (3, .int z)] []) : J p l e room_1 s m #[Value.ref b] below meth c E (fun q : Nat => s.heap.size ≤ q) s.heap 4 96 4339 Q G 863 [(0, .ref b), (1, .ref (Ad E 20 0)), (2, .ref (Ad E 22 0)), (3, .int z)] [] := by
  refine j_aload_n (pc := 863) X dL_863 rfl 1 rfl ?_
  refine j_callI (pc := 864) X (tX7_allRightIn l hE G  hc) muX7_allRightIn (by decide) qL624 rfl rfl (Nat.le_of_ble_eq_true rfl) ⟨Nat.le_of_ble_eq_true rfl, Nat.le_of_ble_eq_true rfl⟩ dL_864 ?_
  refine j_aload_n (pc := 867) X dL_867 rfl 2 rfl ?_
  obtain ⟨hm2, rfl⟩ := lf1_s hm
  refine j_callI (pc := 868) X (tX8_allRightIn l hE G1  hm2) muX8_allRightIn (by decide) qL940 rfl rfl (Nat.le_of_ble_eq_true rfl) ⟨Nat.le_of_ble_eq_true rfl, Nat.le_of_ble_eq_true rfl⟩ dL_868 ?_
  exact j_icmp_eq (pc := 871) (tgt := 899) X dL_871 (by decide) (fun _ => k) (fun hz => absurd rfl hz)
set_option maxHeartbeats 4000000 in
set_option maxRecDepth 100000 in
theorem law_28 {p : Program} {l : Launch} {e : Env} {s : State} {m : MethodId} {below : List Frame} {meth : Method} {c : Code} {E : ET} {Q : State → Prop} {b L : Nat} {xs : Nat → Int32} (X : Cx p room_1 s m #[Value.ref b] c R_law code 4 E (fun q : Nat => s.heap.size ≤ q) 96 4339) (hX : va_X b L xs s s.heap ∧ b < s.heap.size ∧ ¬ (fun q : Nat => s.heap.size ≤ q) b) (hE : Aj E) {G G1 G2 : GT} {z v : Int32} (h1 : inb (z + 1) L = true) (h2 : inb (z + 2) L = true) (h3 : inb (z + 3) L = true) (hc : fX7_count G (xs (z + 1).toNatClampNeg) = some (v, G1)) (hm : lf1 (fX8_count G1 (xs (z + 1).toNatClampNeg)) G1 = some (v, G2)) (k : J p l e room_1 s m #[Value.ref b] below meth c E (fun q : Nat => s.heap.size ≤ q) s.heap 4 96 4339 Q G2 899 [(0, .ref b), (1, .ref (Ad E 20 0)), (2, .ref (Ad E 22 0)), (3, .int z)] []) : J p l e room_1 s m #[Value.ref b] below meth c E (fun q : Nat => s.heap.size ≤ q) s.heap 4 96 4339 Q G 876 [(0, .ref b), (1, .ref (Ad E 20 0)), (2, .ref (Ad E 22 0)), (3, .int z)] [] := by
  refine j_aload_n (pc := 876) X dL_876 rfl 1 rfl ?_
  refine j_aload_n (pc := 877) X dL_877 rfl 0 rfl ?_
  refine j_iload_n (pc := 878) X dL_878 rfl 3 rfl ?_
  refine j_iconst (pc := 879) (v := 1) X dL_879 (by decide) ?_
  refine j_iadd (pc := 880) X dL_880 ?_
  refine j_sld (pc := 881) X hX h1 dL_881 ?_
  refine j_callI (pc := 882) X (tX7_count l hE G (xs (z + 1).toNatClampNeg) hc) muX7_count (by decide) qL638 rfl rfl (Nat.le_of_ble_eq_true rfl) ⟨Nat.le_of_ble_eq_true rfl, Nat.le_of_ble_eq_true rfl⟩ dL_882 ?_
  refine j_aload_n (pc := 885) X dL_885 rfl 2 rfl ?_
  refine j_aload_n (pc := 886) X dL_886 rfl 0 rfl ?_
  refine j_iload_n (pc := 887) X dL_887 rfl 3 rfl ?_
  refine j_iconst (pc := 888) (v := 1) X dL_888 (by decide) ?_
  refine j_iadd (pc := 889) X dL_889 ?_
  refine j_sld (pc := 890) X hX h1 dL_890 ?_
  obtain ⟨hm2, rfl⟩ := lf1_s hm
  refine j_callI (pc := 891) X (tX8_count l hE G1 (xs (z + 1).toNatClampNeg) hm2) muX8_count (by decide) qL944 rfl rfl (Nat.le_of_ble_eq_true rfl) ⟨Nat.le_of_ble_eq_true rfl, Nat.le_of_ble_eq_true rfl⟩ dL_891 ?_
  exact j_icmp_eq (pc := 894) (tgt := 899) X dL_894 (by decide) (fun _ => k) (fun hz => absurd rfl hz)
