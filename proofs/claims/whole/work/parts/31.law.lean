/-! THE LAW: its rows, its loop -/
def gmX (φ : Fx) (L : Nat) (xs : Nat → Int) : Prop := match φ with
  | (p, l, e, R, s, m, args, below, meth, c, Q, G, A, cells, slots, nL) => va_X (G.2.1 150) L (fun j => Int32.ofInt (xs j)) s s.heap ∧ G.2.1 150 < s.heap.size ∧ ¬ A (G.2.1 150) ∧ L < 2147483648
def FinL (φ : Fx) (v : Int) (σ' : St) : Prop := match φ with
  | (p, l, e, R, s, m, args, below, meth, c, Q, G, A, cells, slots, nL) => ∀ (pc : Nat) (H : Heap) (locs : List Loc) (ls : Array Slot), decode code pc = .ok (.ireturn, 1) → gmWd G A s.heap σ' H locs → W p l e R s m args below meth c H locs cells slots Q (F0 m pc ls [.int (Int32.ofInt v)])
theorem gm_lret {φ : Fx} {v x : Int} {σ σ' : St} {pc : Nat} {lv : List (Nat × AV)} (hF : FinL φ v σ') (h : some (x, σ) = some (v, σ')) (hd : decode code pc = .ok (.ireturn, 1)) : J φ σ pc lv [.inl x] := by
  cases h
  obtain ⟨p, l, e0, R, s, m, args, below, meth, c, Q, G, A, cells, slots, nL0⟩ := φ
  intro H locs ls hW h
  exact hF pc H locs ls hd hW
theorem gm_sld {φ : Fx} {own : String} {cc : ByteArray} {nl fr lo : Nat} {σ : St} {pc : Nat} {lv : List (Nat × AV)} {st : List AV} (hG : Good φ own cc nl fr lo) {L : Nat} {xs : Nat → Int} (hX : gmX φ L xs) {i : Int} (hi : 0 ≤ i ∧ i < (L : Int)) (hd : decode cc pc = .ok (.iaload, 1)) (k : J φ σ (pc + 1) lv (.inl (xs i.toNat) :: st)) : J φ σ pc lv (.inl i :: .inr 150 :: st) := by
  obtain ⟨p, l, e0, R, s, m, args, below, meth, c, Q, G, A, cells, slots, nL0⟩ := φ
  obtain ⟨hx, hb, -⟩ := hG
  obtain ⟨x1, x2, x3, x4⟩ := hX
  intro H locs ls hW h
  refine va_sld hx hb x1 x2 x3 hW.2.2.2 (gmR_in hi x4) hd ?_
  rw [gmR_clamp hi x4]
  exact k H locs ls hW h
theorem gm_slen {φ : Fx} {own : String} {cc : ByteArray} {nl fr lo : Nat} {σ : St} {pc : Nat} {lv : List (Nat × AV)} {st : List AV} (hG : Good φ own cc nl fr lo) {L : Nat} {xs : Nat → Int} (hX : gmX φ L xs) (hd : decode cc pc = .ok (.arraylength, 1)) (k : J φ σ (pc + 1) lv (.inl (L : Int) :: st)) : J φ σ pc lv (.inr 150 :: st) := by
  obtain ⟨p, l, e0, R, s, m, args, below, meth, c, Q, G, A, cells, slots, nL0⟩ := φ
  obtain ⟨hx, hb, -⟩ := hG
  obtain ⟨x1, x2, x3, x4⟩ := hX
  intro H locs ls hW h
  refine va_slen hx hb x1 x2 x3 hW.2.2.2 hd ?_
  have := k H locs ls hW h
  rw [show (Int32.ofNat L) = Int32.ofInt (L : Int) from (gm_nIo L).symm]
  exact this
theorem d_l_law_0 : decode code 0 = .ok (.new 7, 3) := by decide +kernel
theorem d_l_law_3 : decode code 3 = .ok (.dup, 1) := by decide +kernel
theorem d_l_law_4 : decode code 4 = .ok (.invokespecial 9, 3) := by decide +kernel
theorem d_l_law_7 : decode code 7 = .ok (.astore_n 1, 1) := by decide +kernel
theorem d_l_law_8 : decode code 8 = .ok (.new 10, 3) := by decide +kernel
theorem d_l_law_11 : decode code 11 = .ok (.dup, 1) := by decide +kernel
theorem d_l_law_12 : decode code 12 = .ok (.invokespecial 12, 3) := by decide +kernel
theorem d_l_law_15 : decode code 15 = .ok (.astore_n 2, 1) := by decide +kernel
theorem d_l_law_16 : decode code 16 = .ok (.iconst 0, 1) := by decide +kernel
theorem d_l_law_17 : decode code 17 = .ok (.istore_n 3, 1) := by decide +kernel
theorem d_l_law_18 : decode code 18 = .ok (.iload_n 3, 1) := by decide +kernel
theorem d_l_law_19 : decode code 19 = .ok (.aload_n 0, 1) := by decide +kernel
theorem d_l_law_20 : decode code 20 = .ok (.arraylength, 1) := by decide +kernel
theorem d_l_law_21 : decode code 21 = .ok (.bipush 7, 2) := by decide +kernel
theorem d_l_law_23 : decode code 23 = .ok (.isub, 1) := by decide +kernel
theorem d_l_law_24 : decode code 24 = .ok (.if_icmp .gt 1090, 3) := by decide +kernel
theorem d_l_law_27 : decode code 27 = .ok (.aload_n 0, 1) := by decide +kernel
theorem d_l_law_28 : decode code 28 = .ok (.iload_n 3, 1) := by decide +kernel
theorem d_l_law_29 : decode code 29 = .ok (.iaload, 1) := by decide +kernel
theorem d_l_law_30 : decode code 30 = .ok (.bipush 63, 2) := by decide +kernel
theorem d_l_law_32 : decode code 32 = .ok (.iand, 1) := by decide +kernel
theorem d_l_law_33 : decode code 33 = .ok (.tableswitch 1075 0 37 #[167, 242, 265, 298, 331, 394, 407, 440, 453, 466, 499, 522, 545, 584, 623, 656, 669, 682, 705, 728, 751, 774, 797, 820, 833, 846, 879, 892, 905, 938, 951, 964, 977, 990, 1003, 1016, 1029, 1052], 167) := by decide +kernel
theorem d_l_law_200 : decode code 200 = .ok (.aload_n 1, 1) := by decide +kernel
theorem d_l_law_201 : decode code 201 = .ok (.aload_n 0, 1) := by decide +kernel
theorem d_l_law_202 : decode code 202 = .ok (.iload_n 3, 1) := by decide +kernel
theorem d_l_law_203 : decode code 203 = .ok (.iconst 1, 1) := by decide +kernel
theorem d_l_law_204 : decode code 204 = .ok (.iadd, 1) := by decide +kernel
theorem d_l_law_205 : decode code 205 = .ok (.iaload, 1) := by decide +kernel
theorem d_l_law_206 : decode code 206 = .ok (.aload_n 0, 1) := by decide +kernel
theorem d_l_law_207 : decode code 207 = .ok (.iload_n 3, 1) := by decide +kernel
theorem d_l_law_208 : decode code 208 = .ok (.iconst 2, 1) := by decide +kernel
theorem d_l_law_209 : decode code 209 = .ok (.iadd, 1) := by decide +kernel
theorem d_l_law_210 : decode code 210 = .ok (.iaload, 1) := by decide +kernel
theorem d_l_law_211 : decode code 211 = .ok (.aload_n 0, 1) := by decide +kernel
theorem d_l_law_212 : decode code 212 = .ok (.iload_n 3, 1) := by decide +kernel
theorem d_l_law_213 : decode code 213 = .ok (.iconst 3, 1) := by decide +kernel
theorem d_l_law_214 : decode code 214 = .ok (.iadd, 1) := by decide +kernel
theorem d_l_law_215 : decode code 215 = .ok (.iaload, 1) := by decide +kernel
theorem d_l_law_216 : decode code 216 = .ok (.aload_n 0, 1) := by decide +kernel
theorem d_l_law_217 : decode code 217 = .ok (.iload_n 3, 1) := by decide +kernel
theorem d_l_law_218 : decode code 218 = .ok (.iconst 4, 1) := by decide +kernel
theorem d_l_law_219 : decode code 219 = .ok (.iadd, 1) := by decide +kernel
theorem d_l_law_220 : decode code 220 = .ok (.iaload, 1) := by decide +kernel
theorem d_l_law_221 : decode code 221 = .ok (.aload_n 0, 1) := by decide +kernel
theorem d_l_law_222 : decode code 222 = .ok (.iload_n 3, 1) := by decide +kernel
theorem d_l_law_223 : decode code 223 = .ok (.iconst 5, 1) := by decide +kernel
theorem d_l_law_224 : decode code 224 = .ok (.iadd, 1) := by decide +kernel
theorem d_l_law_225 : decode code 225 = .ok (.iaload, 1) := by decide +kernel
theorem d_l_law_226 : decode code 226 = .ok (.aload_n 0, 1) := by decide +kernel
theorem d_l_law_227 : decode code 227 = .ok (.iload_n 3, 1) := by decide +kernel
theorem d_l_law_228 : decode code 228 = .ok (.bipush 6, 2) := by decide +kernel
theorem d_l_law_230 : decode code 230 = .ok (.iadd, 1) := by decide +kernel
theorem d_l_law_231 : decode code 231 = .ok (.iaload, 1) := by decide +kernel
theorem d_l_law_232 : decode code 232 = .ok (.invokevirtual 13, 3) := by decide +kernel
theorem d_l_law_235 : decode code 235 = .ok (.aload_n 2, 1) := by decide +kernel
theorem d_l_law_236 : decode code 236 = .ok (.aload_n 0, 1) := by decide +kernel
theorem d_l_law_237 : decode code 237 = .ok (.iload_n 3, 1) := by decide +kernel
theorem d_l_law_238 : decode code 238 = .ok (.iconst 1, 1) := by decide +kernel
theorem d_l_law_239 : decode code 239 = .ok (.iadd, 1) := by decide +kernel
theorem d_l_law_240 : decode code 240 = .ok (.iaload, 1) := by decide +kernel
theorem d_l_law_241 : decode code 241 = .ok (.aload_n 0, 1) := by decide +kernel
theorem d_l_law_242 : decode code 242 = .ok (.iload_n 3, 1) := by decide +kernel
theorem d_l_law_243 : decode code 243 = .ok (.iconst 2, 1) := by decide +kernel
theorem d_l_law_244 : decode code 244 = .ok (.iadd, 1) := by decide +kernel
theorem d_l_law_245 : decode code 245 = .ok (.iaload, 1) := by decide +kernel
theorem d_l_law_246 : decode code 246 = .ok (.aload_n 0, 1) := by decide +kernel
theorem d_l_law_247 : decode code 247 = .ok (.iload_n 3, 1) := by decide +kernel
theorem d_l_law_248 : decode code 248 = .ok (.iconst 3, 1) := by decide +kernel
theorem d_l_law_249 : decode code 249 = .ok (.iadd, 1) := by decide +kernel
theorem d_l_law_250 : decode code 250 = .ok (.iaload, 1) := by decide +kernel
theorem d_l_law_251 : decode code 251 = .ok (.aload_n 0, 1) := by decide +kernel
theorem d_l_law_252 : decode code 252 = .ok (.iload_n 3, 1) := by decide +kernel
theorem d_l_law_253 : decode code 253 = .ok (.iconst 4, 1) := by decide +kernel
theorem d_l_law_254 : decode code 254 = .ok (.iadd, 1) := by decide +kernel
theorem d_l_law_255 : decode code 255 = .ok (.iaload, 1) := by decide +kernel
theorem d_l_law_256 : decode code 256 = .ok (.aload_n 0, 1) := by decide +kernel
theorem d_l_law_257 : decode code 257 = .ok (.iload_n 3, 1) := by decide +kernel
theorem d_l_law_258 : decode code 258 = .ok (.iconst 5, 1) := by decide +kernel
theorem d_l_law_259 : decode code 259 = .ok (.iadd, 1) := by decide +kernel
theorem d_l_law_260 : decode code 260 = .ok (.iaload, 1) := by decide +kernel
theorem d_l_law_261 : decode code 261 = .ok (.aload_n 0, 1) := by decide +kernel
theorem d_l_law_262 : decode code 262 = .ok (.iload_n 3, 1) := by decide +kernel
theorem d_l_law_263 : decode code 263 = .ok (.bipush 6, 2) := by decide +kernel
theorem d_l_law_265 : decode code 265 = .ok (.iadd, 1) := by decide +kernel
theorem d_l_law_266 : decode code 266 = .ok (.iaload, 1) := by decide +kernel
theorem d_l_law_267 : decode code 267 = .ok (.invokevirtual 17, 3) := by decide +kernel
theorem d_l_law_270 : decode code 270 = .ok (.if_icmp .eq 838, 3) := by decide +kernel
theorem d_l_law_273 : decode code 273 = .ok (.iconst 0, 1) := by decide +kernel
theorem d_l_law_274 : decode code 274 = .ok (.ireturn, 1) := by decide +kernel
theorem d_l_law_275 : decode code 275 = .ok (.aload_n 1, 1) := by decide +kernel
theorem d_l_law_276 : decode code 276 = .ok (.aload_n 0, 1) := by decide +kernel
theorem d_l_law_277 : decode code 277 = .ok (.iload_n 3, 1) := by decide +kernel
theorem d_l_law_278 : decode code 278 = .ok (.iconst 1, 1) := by decide +kernel
theorem d_l_law_279 : decode code 279 = .ok (.iadd, 1) := by decide +kernel
theorem d_l_law_280 : decode code 280 = .ok (.iaload, 1) := by decide +kernel
theorem d_l_law_281 : decode code 281 = .ok (.invokevirtual 18, 3) := by decide +kernel
theorem d_l_law_284 : decode code 284 = .ok (.aload_n 2, 1) := by decide +kernel
theorem d_l_law_285 : decode code 285 = .ok (.aload_n 0, 1) := by decide +kernel
theorem d_l_law_286 : decode code 286 = .ok (.iload_n 3, 1) := by decide +kernel
theorem d_l_law_287 : decode code 287 = .ok (.iconst 1, 1) := by decide +kernel
theorem d_l_law_288 : decode code 288 = .ok (.iadd, 1) := by decide +kernel
theorem d_l_law_289 : decode code 289 = .ok (.iaload, 1) := by decide +kernel
theorem d_l_law_290 : decode code 290 = .ok (.invokevirtual 22, 3) := by decide +kernel
theorem d_l_law_293 : decode code 293 = .ok (.if_icmp .eq 815, 3) := by decide +kernel
theorem d_l_law_296 : decode code 296 = .ok (.iconst 0, 1) := by decide +kernel
theorem d_l_law_297 : decode code 297 = .ok (.ireturn, 1) := by decide +kernel
theorem d_l_law_298 : decode code 298 = .ok (.aload_n 1, 1) := by decide +kernel
theorem d_l_law_299 : decode code 299 = .ok (.aload_n 0, 1) := by decide +kernel
theorem d_l_law_300 : decode code 300 = .ok (.iload_n 3, 1) := by decide +kernel
theorem d_l_law_301 : decode code 301 = .ok (.iconst 1, 1) := by decide +kernel
theorem d_l_law_302 : decode code 302 = .ok (.iadd, 1) := by decide +kernel
theorem d_l_law_303 : decode code 303 = .ok (.iaload, 1) := by decide +kernel
theorem d_l_law_304 : decode code 304 = .ok (.aload_n 0, 1) := by decide +kernel
theorem d_l_law_305 : decode code 305 = .ok (.iload_n 3, 1) := by decide +kernel
theorem d_l_law_306 : decode code 306 = .ok (.iconst 2, 1) := by decide +kernel
theorem d_l_law_307 : decode code 307 = .ok (.iadd, 1) := by decide +kernel
theorem d_l_law_308 : decode code 308 = .ok (.iaload, 1) := by decide +kernel
theorem d_l_law_309 : decode code 309 = .ok (.invokevirtual 23, 3) := by decide +kernel
theorem d_l_law_312 : decode code 312 = .ok (.aload_n 2, 1) := by decide +kernel
theorem d_l_law_313 : decode code 313 = .ok (.aload_n 0, 1) := by decide +kernel
theorem d_l_law_314 : decode code 314 = .ok (.iload_n 3, 1) := by decide +kernel
theorem d_l_law_315 : decode code 315 = .ok (.iconst 1, 1) := by decide +kernel
theorem d_l_law_316 : decode code 316 = .ok (.iadd, 1) := by decide +kernel
theorem d_l_law_317 : decode code 317 = .ok (.iaload, 1) := by decide +kernel
theorem d_l_law_318 : decode code 318 = .ok (.aload_n 0, 1) := by decide +kernel
theorem d_l_law_319 : decode code 319 = .ok (.iload_n 3, 1) := by decide +kernel
theorem d_l_law_320 : decode code 320 = .ok (.iconst 2, 1) := by decide +kernel
theorem d_l_law_321 : decode code 321 = .ok (.iadd, 1) := by decide +kernel
theorem d_l_law_322 : decode code 322 = .ok (.iaload, 1) := by decide +kernel
theorem d_l_law_323 : decode code 323 = .ok (.invokevirtual 27, 3) := by decide +kernel
theorem d_l_law_326 : decode code 326 = .ok (.if_icmp .eq 782, 3) := by decide +kernel
theorem d_l_law_329 : decode code 329 = .ok (.iconst 0, 1) := by decide +kernel
theorem d_l_law_330 : decode code 330 = .ok (.ireturn, 1) := by decide +kernel
theorem d_l_law_331 : decode code 331 = .ok (.aload_n 1, 1) := by decide +kernel
theorem d_l_law_332 : decode code 332 = .ok (.aload_n 0, 1) := by decide +kernel
theorem d_l_law_333 : decode code 333 = .ok (.iload_n 3, 1) := by decide +kernel
theorem d_l_law_334 : decode code 334 = .ok (.iconst 1, 1) := by decide +kernel
theorem d_l_law_335 : decode code 335 = .ok (.iadd, 1) := by decide +kernel
theorem d_l_law_336 : decode code 336 = .ok (.iaload, 1) := by decide +kernel
theorem d_l_law_337 : decode code 337 = .ok (.aload_n 0, 1) := by decide +kernel
theorem d_l_law_338 : decode code 338 = .ok (.iload_n 3, 1) := by decide +kernel
theorem d_l_law_339 : decode code 339 = .ok (.iconst 2, 1) := by decide +kernel
theorem d_l_law_340 : decode code 340 = .ok (.iadd, 1) := by decide +kernel
theorem d_l_law_341 : decode code 341 = .ok (.iaload, 1) := by decide +kernel
theorem d_l_law_342 : decode code 342 = .ok (.invokevirtual 28, 3) := by decide +kernel
theorem d_l_law_345 : decode code 345 = .ok (.aload_n 2, 1) := by decide +kernel
theorem d_l_law_346 : decode code 346 = .ok (.aload_n 0, 1) := by decide +kernel
theorem d_l_law_347 : decode code 347 = .ok (.iload_n 3, 1) := by decide +kernel
theorem d_l_law_348 : decode code 348 = .ok (.iconst 1, 1) := by decide +kernel
theorem d_l_law_349 : decode code 349 = .ok (.iadd, 1) := by decide +kernel
theorem d_l_law_350 : decode code 350 = .ok (.iaload, 1) := by decide +kernel
theorem d_l_law_351 : decode code 351 = .ok (.aload_n 0, 1) := by decide +kernel
theorem d_l_law_352 : decode code 352 = .ok (.iload_n 3, 1) := by decide +kernel
theorem d_l_law_353 : decode code 353 = .ok (.iconst 2, 1) := by decide +kernel
theorem d_l_law_354 : decode code 354 = .ok (.iadd, 1) := by decide +kernel
theorem d_l_law_355 : decode code 355 = .ok (.iaload, 1) := by decide +kernel
theorem d_l_law_356 : decode code 356 = .ok (.invokevirtual 31, 3) := by decide +kernel
theorem d_l_law_359 : decode code 359 = .ok (.if_icmp .eq 749, 3) := by decide +kernel
theorem d_l_law_362 : decode code 362 = .ok (.iconst 0, 1) := by decide +kernel
theorem d_l_law_363 : decode code 363 = .ok (.ireturn, 1) := by decide +kernel
theorem d_l_law_364 : decode code 364 = .ok (.aload_n 1, 1) := by decide +kernel
theorem d_l_law_365 : decode code 365 = .ok (.aload_n 0, 1) := by decide +kernel
theorem d_l_law_366 : decode code 366 = .ok (.iload_n 3, 1) := by decide +kernel
theorem d_l_law_367 : decode code 367 = .ok (.iconst 1, 1) := by decide +kernel
theorem d_l_law_368 : decode code 368 = .ok (.iadd, 1) := by decide +kernel
theorem d_l_law_369 : decode code 369 = .ok (.iaload, 1) := by decide +kernel
theorem d_l_law_370 : decode code 370 = .ok (.aload_n 0, 1) := by decide +kernel
theorem d_l_law_371 : decode code 371 = .ok (.iload_n 3, 1) := by decide +kernel
theorem d_l_law_372 : decode code 372 = .ok (.iconst 2, 1) := by decide +kernel
theorem d_l_law_373 : decode code 373 = .ok (.iadd, 1) := by decide +kernel
theorem d_l_law_374 : decode code 374 = .ok (.iaload, 1) := by decide +kernel
theorem d_l_law_375 : decode code 375 = .ok (.aload_n 0, 1) := by decide +kernel
theorem d_l_law_376 : decode code 376 = .ok (.iload_n 3, 1) := by decide +kernel
theorem d_l_law_377 : decode code 377 = .ok (.iconst 3, 1) := by decide +kernel
theorem d_l_law_378 : decode code 378 = .ok (.iadd, 1) := by decide +kernel
theorem d_l_law_379 : decode code 379 = .ok (.iaload, 1) := by decide +kernel
theorem d_l_law_380 : decode code 380 = .ok (.aload_n 0, 1) := by decide +kernel
theorem d_l_law_381 : decode code 381 = .ok (.iload_n 3, 1) := by decide +kernel
theorem d_l_law_382 : decode code 382 = .ok (.iconst 4, 1) := by decide +kernel
theorem d_l_law_383 : decode code 383 = .ok (.iadd, 1) := by decide +kernel
theorem d_l_law_384 : decode code 384 = .ok (.iaload, 1) := by decide +kernel
theorem d_l_law_385 : decode code 385 = .ok (.aload_n 0, 1) := by decide +kernel
theorem d_l_law_386 : decode code 386 = .ok (.iload_n 3, 1) := by decide +kernel
theorem d_l_law_387 : decode code 387 = .ok (.iconst 5, 1) := by decide +kernel
theorem d_l_law_388 : decode code 388 = .ok (.iadd, 1) := by decide +kernel
theorem d_l_law_389 : decode code 389 = .ok (.iaload, 1) := by decide +kernel
theorem d_l_law_390 : decode code 390 = .ok (.invokevirtual 32, 3) := by decide +kernel
theorem d_l_law_393 : decode code 393 = .ok (.aload_n 2, 1) := by decide +kernel
theorem d_l_law_394 : decode code 394 = .ok (.aload_n 0, 1) := by decide +kernel
theorem d_l_law_395 : decode code 395 = .ok (.iload_n 3, 1) := by decide +kernel
theorem d_l_law_396 : decode code 396 = .ok (.iconst 1, 1) := by decide +kernel
theorem d_l_law_397 : decode code 397 = .ok (.iadd, 1) := by decide +kernel
theorem d_l_law_398 : decode code 398 = .ok (.iaload, 1) := by decide +kernel
theorem d_l_law_399 : decode code 399 = .ok (.aload_n 0, 1) := by decide +kernel
theorem d_l_law_400 : decode code 400 = .ok (.iload_n 3, 1) := by decide +kernel
theorem d_l_law_401 : decode code 401 = .ok (.iconst 2, 1) := by decide +kernel
theorem d_l_law_402 : decode code 402 = .ok (.iadd, 1) := by decide +kernel
theorem d_l_law_403 : decode code 403 = .ok (.iaload, 1) := by decide +kernel
theorem d_l_law_404 : decode code 404 = .ok (.aload_n 0, 1) := by decide +kernel
theorem d_l_law_405 : decode code 405 = .ok (.iload_n 3, 1) := by decide +kernel
theorem d_l_law_406 : decode code 406 = .ok (.iconst 3, 1) := by decide +kernel
theorem d_l_law_407 : decode code 407 = .ok (.iadd, 1) := by decide +kernel
theorem d_l_law_408 : decode code 408 = .ok (.iaload, 1) := by decide +kernel
theorem d_l_law_409 : decode code 409 = .ok (.aload_n 0, 1) := by decide +kernel
theorem d_l_law_410 : decode code 410 = .ok (.iload_n 3, 1) := by decide +kernel
theorem d_l_law_411 : decode code 411 = .ok (.iconst 4, 1) := by decide +kernel
theorem d_l_law_412 : decode code 412 = .ok (.iadd, 1) := by decide +kernel
theorem d_l_law_413 : decode code 413 = .ok (.iaload, 1) := by decide +kernel
theorem d_l_law_414 : decode code 414 = .ok (.aload_n 0, 1) := by decide +kernel
theorem d_l_law_415 : decode code 415 = .ok (.iload_n 3, 1) := by decide +kernel
theorem d_l_law_416 : decode code 416 = .ok (.iconst 5, 1) := by decide +kernel
theorem d_l_law_417 : decode code 417 = .ok (.iadd, 1) := by decide +kernel
theorem d_l_law_418 : decode code 418 = .ok (.iaload, 1) := by decide +kernel
theorem d_l_law_419 : decode code 419 = .ok (.invokevirtual 36, 3) := by decide +kernel
theorem d_l_law_422 : decode code 422 = .ok (.if_icmp .eq 686, 3) := by decide +kernel
theorem d_l_law_425 : decode code 425 = .ok (.iconst 0, 1) := by decide +kernel
theorem d_l_law_426 : decode code 426 = .ok (.ireturn, 1) := by decide +kernel
theorem d_l_law_427 : decode code 427 = .ok (.aload_n 1, 1) := by decide +kernel
theorem d_l_law_428 : decode code 428 = .ok (.invokevirtual 37, 3) := by decide +kernel
theorem d_l_law_431 : decode code 431 = .ok (.aload_n 2, 1) := by decide +kernel
theorem d_l_law_432 : decode code 432 = .ok (.invokevirtual 41, 3) := by decide +kernel
theorem d_l_law_435 : decode code 435 = .ok (.if_icmp .eq 673, 3) := by decide +kernel
theorem d_l_law_438 : decode code 438 = .ok (.iconst 0, 1) := by decide +kernel
theorem d_l_law_439 : decode code 439 = .ok (.ireturn, 1) := by decide +kernel
theorem d_l_law_440 : decode code 440 = .ok (.aload_n 1, 1) := by decide +kernel
theorem d_l_law_441 : decode code 441 = .ok (.aload_n 0, 1) := by decide +kernel
theorem d_l_law_442 : decode code 442 = .ok (.iload_n 3, 1) := by decide +kernel
theorem d_l_law_443 : decode code 443 = .ok (.iconst 1, 1) := by decide +kernel
theorem d_l_law_444 : decode code 444 = .ok (.iadd, 1) := by decide +kernel
theorem d_l_law_445 : decode code 445 = .ok (.iaload, 1) := by decide +kernel
theorem d_l_law_446 : decode code 446 = .ok (.aload_n 0, 1) := by decide +kernel
theorem d_l_law_447 : decode code 447 = .ok (.iload_n 3, 1) := by decide +kernel
theorem d_l_law_448 : decode code 448 = .ok (.iconst 2, 1) := by decide +kernel
theorem d_l_law_449 : decode code 449 = .ok (.iadd, 1) := by decide +kernel
theorem d_l_law_450 : decode code 450 = .ok (.iaload, 1) := by decide +kernel
theorem d_l_law_451 : decode code 451 = .ok (.invokevirtual 42, 3) := by decide +kernel
theorem d_l_law_454 : decode code 454 = .ok (.aload_n 2, 1) := by decide +kernel
theorem d_l_law_455 : decode code 455 = .ok (.aload_n 0, 1) := by decide +kernel
theorem d_l_law_456 : decode code 456 = .ok (.iload_n 3, 1) := by decide +kernel
theorem d_l_law_457 : decode code 457 = .ok (.iconst 1, 1) := by decide +kernel
theorem d_l_law_458 : decode code 458 = .ok (.iadd, 1) := by decide +kernel
theorem d_l_law_459 : decode code 459 = .ok (.iaload, 1) := by decide +kernel
theorem d_l_law_460 : decode code 460 = .ok (.aload_n 0, 1) := by decide +kernel
theorem d_l_law_461 : decode code 461 = .ok (.iload_n 3, 1) := by decide +kernel
theorem d_l_law_462 : decode code 462 = .ok (.iconst 2, 1) := by decide +kernel
theorem d_l_law_463 : decode code 463 = .ok (.iadd, 1) := by decide +kernel
theorem d_l_law_464 : decode code 464 = .ok (.iaload, 1) := by decide +kernel
theorem d_l_law_465 : decode code 465 = .ok (.invokevirtual 45, 3) := by decide +kernel
theorem d_l_law_468 : decode code 468 = .ok (.if_icmp .eq 640, 3) := by decide +kernel
theorem d_l_law_471 : decode code 471 = .ok (.iconst 0, 1) := by decide +kernel
theorem d_l_law_472 : decode code 472 = .ok (.ireturn, 1) := by decide +kernel
theorem d_l_law_473 : decode code 473 = .ok (.aload_n 1, 1) := by decide +kernel
theorem d_l_law_474 : decode code 474 = .ok (.invokevirtual 46, 3) := by decide +kernel
theorem d_l_law_477 : decode code 477 = .ok (.aload_n 2, 1) := by decide +kernel
theorem d_l_law_478 : decode code 478 = .ok (.invokevirtual 49, 3) := by decide +kernel
theorem d_l_law_481 : decode code 481 = .ok (.if_icmp .eq 627, 3) := by decide +kernel
theorem d_l_law_484 : decode code 484 = .ok (.iconst 0, 1) := by decide +kernel
theorem d_l_law_485 : decode code 485 = .ok (.ireturn, 1) := by decide +kernel
theorem d_l_law_486 : decode code 486 = .ok (.aload_n 1, 1) := by decide +kernel
theorem d_l_law_487 : decode code 487 = .ok (.invokevirtual 50, 3) := by decide +kernel
theorem d_l_law_490 : decode code 490 = .ok (.aload_n 2, 1) := by decide +kernel
theorem d_l_law_491 : decode code 491 = .ok (.invokevirtual 53, 3) := by decide +kernel
theorem d_l_law_494 : decode code 494 = .ok (.if_icmp .eq 614, 3) := by decide +kernel
theorem d_l_law_497 : decode code 497 = .ok (.iconst 0, 1) := by decide +kernel
theorem d_l_law_498 : decode code 498 = .ok (.ireturn, 1) := by decide +kernel
theorem d_l_law_499 : decode code 499 = .ok (.aload_n 1, 1) := by decide +kernel
theorem d_l_law_500 : decode code 500 = .ok (.aload_n 0, 1) := by decide +kernel
theorem d_l_law_501 : decode code 501 = .ok (.iload_n 3, 1) := by decide +kernel
theorem d_l_law_502 : decode code 502 = .ok (.iconst 1, 1) := by decide +kernel
theorem d_l_law_503 : decode code 503 = .ok (.iadd, 1) := by decide +kernel
theorem d_l_law_504 : decode code 504 = .ok (.iaload, 1) := by decide +kernel
theorem d_l_law_505 : decode code 505 = .ok (.aload_n 0, 1) := by decide +kernel
theorem d_l_law_506 : decode code 506 = .ok (.iload_n 3, 1) := by decide +kernel
theorem d_l_law_507 : decode code 507 = .ok (.iconst 2, 1) := by decide +kernel
theorem d_l_law_508 : decode code 508 = .ok (.iadd, 1) := by decide +kernel
theorem d_l_law_509 : decode code 509 = .ok (.iaload, 1) := by decide +kernel
theorem d_l_law_510 : decode code 510 = .ok (.invokevirtual 54, 3) := by decide +kernel
theorem d_l_law_513 : decode code 513 = .ok (.aload_n 2, 1) := by decide +kernel
theorem d_l_law_514 : decode code 514 = .ok (.aload_n 0, 1) := by decide +kernel
theorem d_l_law_515 : decode code 515 = .ok (.iload_n 3, 1) := by decide +kernel
theorem d_l_law_516 : decode code 516 = .ok (.iconst 1, 1) := by decide +kernel
theorem d_l_law_517 : decode code 517 = .ok (.iadd, 1) := by decide +kernel
theorem d_l_law_518 : decode code 518 = .ok (.iaload, 1) := by decide +kernel
theorem d_l_law_519 : decode code 519 = .ok (.aload_n 0, 1) := by decide +kernel
theorem d_l_law_520 : decode code 520 = .ok (.iload_n 3, 1) := by decide +kernel
theorem d_l_law_521 : decode code 521 = .ok (.iconst 2, 1) := by decide +kernel
theorem d_l_law_522 : decode code 522 = .ok (.iadd, 1) := by decide +kernel
theorem d_l_law_523 : decode code 523 = .ok (.iaload, 1) := by decide +kernel
theorem d_l_law_524 : decode code 524 = .ok (.invokevirtual 57, 3) := by decide +kernel
theorem d_l_law_527 : decode code 527 = .ok (.if_icmp .eq 581, 3) := by decide +kernel
theorem d_l_law_530 : decode code 530 = .ok (.iconst 0, 1) := by decide +kernel
theorem d_l_law_531 : decode code 531 = .ok (.ireturn, 1) := by decide +kernel
theorem d_l_law_532 : decode code 532 = .ok (.aload_n 1, 1) := by decide +kernel
theorem d_l_law_533 : decode code 533 = .ok (.aload_n 0, 1) := by decide +kernel
theorem d_l_law_534 : decode code 534 = .ok (.iload_n 3, 1) := by decide +kernel
theorem d_l_law_535 : decode code 535 = .ok (.iconst 1, 1) := by decide +kernel
theorem d_l_law_536 : decode code 536 = .ok (.iadd, 1) := by decide +kernel
theorem d_l_law_537 : decode code 537 = .ok (.iaload, 1) := by decide +kernel
theorem d_l_law_538 : decode code 538 = .ok (.invokevirtual 58, 3) := by decide +kernel
theorem d_l_law_541 : decode code 541 = .ok (.aload_n 2, 1) := by decide +kernel
theorem d_l_law_542 : decode code 542 = .ok (.aload_n 0, 1) := by decide +kernel
theorem d_l_law_543 : decode code 543 = .ok (.iload_n 3, 1) := by decide +kernel
theorem d_l_law_544 : decode code 544 = .ok (.iconst 1, 1) := by decide +kernel
theorem d_l_law_545 : decode code 545 = .ok (.iadd, 1) := by decide +kernel
theorem d_l_law_546 : decode code 546 = .ok (.iaload, 1) := by decide +kernel
theorem d_l_law_547 : decode code 547 = .ok (.invokevirtual 61, 3) := by decide +kernel
theorem d_l_law_550 : decode code 550 = .ok (.if_icmp .eq 558, 3) := by decide +kernel
theorem d_l_law_553 : decode code 553 = .ok (.iconst 0, 1) := by decide +kernel
theorem d_l_law_554 : decode code 554 = .ok (.ireturn, 1) := by decide +kernel
theorem d_l_law_555 : decode code 555 = .ok (.aload_n 1, 1) := by decide +kernel
theorem d_l_law_556 : decode code 556 = .ok (.aload_n 0, 1) := by decide +kernel
theorem d_l_law_557 : decode code 557 = .ok (.iload_n 3, 1) := by decide +kernel
theorem d_l_law_558 : decode code 558 = .ok (.iconst 1, 1) := by decide +kernel
theorem d_l_law_559 : decode code 559 = .ok (.iadd, 1) := by decide +kernel
theorem d_l_law_560 : decode code 560 = .ok (.iaload, 1) := by decide +kernel
theorem d_l_law_561 : decode code 561 = .ok (.invokevirtual 62, 3) := by decide +kernel
theorem d_l_law_564 : decode code 564 = .ok (.aload_n 2, 1) := by decide +kernel
theorem d_l_law_565 : decode code 565 = .ok (.aload_n 0, 1) := by decide +kernel
theorem d_l_law_566 : decode code 566 = .ok (.iload_n 3, 1) := by decide +kernel
theorem d_l_law_567 : decode code 567 = .ok (.iconst 1, 1) := by decide +kernel
theorem d_l_law_568 : decode code 568 = .ok (.iadd, 1) := by decide +kernel
theorem d_l_law_569 : decode code 569 = .ok (.iaload, 1) := by decide +kernel
theorem d_l_law_570 : decode code 570 = .ok (.invokevirtual 65, 3) := by decide +kernel
theorem d_l_law_573 : decode code 573 = .ok (.if_icmp .eq 535, 3) := by decide +kernel
theorem d_l_law_576 : decode code 576 = .ok (.iconst 0, 1) := by decide +kernel
theorem d_l_law_577 : decode code 577 = .ok (.ireturn, 1) := by decide +kernel
theorem d_l_law_578 : decode code 578 = .ok (.aload_n 1, 1) := by decide +kernel
theorem d_l_law_579 : decode code 579 = .ok (.aload_n 0, 1) := by decide +kernel
theorem d_l_law_580 : decode code 580 = .ok (.iload_n 3, 1) := by decide +kernel
theorem d_l_law_581 : decode code 581 = .ok (.iconst 1, 1) := by decide +kernel
theorem d_l_law_582 : decode code 582 = .ok (.iadd, 1) := by decide +kernel
theorem d_l_law_583 : decode code 583 = .ok (.iaload, 1) := by decide +kernel
theorem d_l_law_584 : decode code 584 = .ok (.ifCond .eq 7, 3) := by decide +kernel
theorem d_l_law_587 : decode code 587 = .ok (.iconst 1, 1) := by decide +kernel
theorem d_l_law_588 : decode code 588 = .ok (.goto 4, 3) := by decide +kernel
theorem d_l_law_591 : decode code 591 = .ok (.iconst 0, 1) := by decide +kernel
theorem d_l_law_592 : decode code 592 = .ok (.invokevirtual 66, 3) := by decide +kernel
theorem d_l_law_595 : decode code 595 = .ok (.aload_n 2, 1) := by decide +kernel
theorem d_l_law_596 : decode code 596 = .ok (.aload_n 0, 1) := by decide +kernel
theorem d_l_law_597 : decode code 597 = .ok (.iload_n 3, 1) := by decide +kernel
theorem d_l_law_598 : decode code 598 = .ok (.iconst 1, 1) := by decide +kernel
theorem d_l_law_599 : decode code 599 = .ok (.iadd, 1) := by decide +kernel
theorem d_l_law_600 : decode code 600 = .ok (.iaload, 1) := by decide +kernel
theorem d_l_law_601 : decode code 601 = .ok (.ifCond .eq 7, 3) := by decide +kernel
theorem d_l_law_604 : decode code 604 = .ok (.iconst 1, 1) := by decide +kernel
theorem d_l_law_605 : decode code 605 = .ok (.goto 4, 3) := by decide +kernel
theorem d_l_law_608 : decode code 608 = .ok (.iconst 0, 1) := by decide +kernel
theorem d_l_law_609 : decode code 609 = .ok (.invokevirtual 70, 3) := by decide +kernel
theorem d_l_law_612 : decode code 612 = .ok (.if_icmp .eq 496, 3) := by decide +kernel
theorem d_l_law_615 : decode code 615 = .ok (.iconst 0, 1) := by decide +kernel
theorem d_l_law_616 : decode code 616 = .ok (.ireturn, 1) := by decide +kernel
theorem d_l_law_617 : decode code 617 = .ok (.aload_n 1, 1) := by decide +kernel
theorem d_l_law_618 : decode code 618 = .ok (.aload_n 0, 1) := by decide +kernel
theorem d_l_law_619 : decode code 619 = .ok (.iload_n 3, 1) := by decide +kernel
theorem d_l_law_620 : decode code 620 = .ok (.iconst 1, 1) := by decide +kernel
theorem d_l_law_621 : decode code 621 = .ok (.iadd, 1) := by decide +kernel
theorem d_l_law_622 : decode code 622 = .ok (.iaload, 1) := by decide +kernel
theorem d_l_law_623 : decode code 623 = .ok (.ifCond .eq 7, 3) := by decide +kernel
theorem d_l_law_626 : decode code 626 = .ok (.iconst 1, 1) := by decide +kernel
theorem d_l_law_627 : decode code 627 = .ok (.goto 4, 3) := by decide +kernel
theorem d_l_law_630 : decode code 630 = .ok (.iconst 0, 1) := by decide +kernel
theorem d_l_law_631 : decode code 631 = .ok (.invokevirtual 71, 3) := by decide +kernel
theorem d_l_law_634 : decode code 634 = .ok (.aload_n 2, 1) := by decide +kernel
theorem d_l_law_635 : decode code 635 = .ok (.aload_n 0, 1) := by decide +kernel
theorem d_l_law_636 : decode code 636 = .ok (.iload_n 3, 1) := by decide +kernel
theorem d_l_law_637 : decode code 637 = .ok (.iconst 1, 1) := by decide +kernel
theorem d_l_law_638 : decode code 638 = .ok (.iadd, 1) := by decide +kernel
theorem d_l_law_639 : decode code 639 = .ok (.iaload, 1) := by decide +kernel
theorem d_l_law_640 : decode code 640 = .ok (.ifCond .eq 7, 3) := by decide +kernel
theorem d_l_law_643 : decode code 643 = .ok (.iconst 1, 1) := by decide +kernel
theorem d_l_law_644 : decode code 644 = .ok (.goto 4, 3) := by decide +kernel
theorem d_l_law_647 : decode code 647 = .ok (.iconst 0, 1) := by decide +kernel
theorem d_l_law_648 : decode code 648 = .ok (.invokevirtual 74, 3) := by decide +kernel
theorem d_l_law_651 : decode code 651 = .ok (.if_icmp .eq 457, 3) := by decide +kernel
theorem d_l_law_654 : decode code 654 = .ok (.iconst 0, 1) := by decide +kernel
theorem d_l_law_655 : decode code 655 = .ok (.ireturn, 1) := by decide +kernel
theorem d_l_law_656 : decode code 656 = .ok (.aload_n 1, 1) := by decide +kernel
theorem d_l_law_657 : decode code 657 = .ok (.aload_n 0, 1) := by decide +kernel
theorem d_l_law_658 : decode code 658 = .ok (.iload_n 3, 1) := by decide +kernel
theorem d_l_law_659 : decode code 659 = .ok (.iconst 1, 1) := by decide +kernel
theorem d_l_law_660 : decode code 660 = .ok (.iadd, 1) := by decide +kernel
theorem d_l_law_661 : decode code 661 = .ok (.iaload, 1) := by decide +kernel
theorem d_l_law_662 : decode code 662 = .ok (.aload_n 0, 1) := by decide +kernel
theorem d_l_law_663 : decode code 663 = .ok (.iload_n 3, 1) := by decide +kernel
theorem d_l_law_664 : decode code 664 = .ok (.iconst 2, 1) := by decide +kernel
theorem d_l_law_665 : decode code 665 = .ok (.iadd, 1) := by decide +kernel
theorem d_l_law_666 : decode code 666 = .ok (.iaload, 1) := by decide +kernel
theorem d_l_law_667 : decode code 667 = .ok (.invokevirtual 75, 3) := by decide +kernel
theorem d_l_law_670 : decode code 670 = .ok (.aload_n 2, 1) := by decide +kernel
theorem d_l_law_671 : decode code 671 = .ok (.aload_n 0, 1) := by decide +kernel
theorem d_l_law_672 : decode code 672 = .ok (.iload_n 3, 1) := by decide +kernel
theorem d_l_law_673 : decode code 673 = .ok (.iconst 1, 1) := by decide +kernel
theorem d_l_law_674 : decode code 674 = .ok (.iadd, 1) := by decide +kernel
theorem d_l_law_675 : decode code 675 = .ok (.iaload, 1) := by decide +kernel
theorem d_l_law_676 : decode code 676 = .ok (.aload_n 0, 1) := by decide +kernel
theorem d_l_law_677 : decode code 677 = .ok (.iload_n 3, 1) := by decide +kernel
theorem d_l_law_678 : decode code 678 = .ok (.iconst 2, 1) := by decide +kernel
theorem d_l_law_679 : decode code 679 = .ok (.iadd, 1) := by decide +kernel
theorem d_l_law_680 : decode code 680 = .ok (.iaload, 1) := by decide +kernel
theorem d_l_law_681 : decode code 681 = .ok (.invokevirtual 78, 3) := by decide +kernel
theorem d_l_law_684 : decode code 684 = .ok (.if_icmp .eq 424, 3) := by decide +kernel
theorem d_l_law_687 : decode code 687 = .ok (.iconst 0, 1) := by decide +kernel
theorem d_l_law_688 : decode code 688 = .ok (.ireturn, 1) := by decide +kernel
theorem d_l_law_689 : decode code 689 = .ok (.aload_n 1, 1) := by decide +kernel
theorem d_l_law_690 : decode code 690 = .ok (.invokevirtual 79, 3) := by decide +kernel
theorem d_l_law_693 : decode code 693 = .ok (.aload_n 2, 1) := by decide +kernel
theorem d_l_law_694 : decode code 694 = .ok (.invokevirtual 82, 3) := by decide +kernel
theorem d_l_law_697 : decode code 697 = .ok (.if_icmp .eq 411, 3) := by decide +kernel
theorem d_l_law_700 : decode code 700 = .ok (.iconst 0, 1) := by decide +kernel
theorem d_l_law_701 : decode code 701 = .ok (.ireturn, 1) := by decide +kernel
theorem d_l_law_702 : decode code 702 = .ok (.aload_n 1, 1) := by decide +kernel
theorem d_l_law_703 : decode code 703 = .ok (.invokevirtual 83, 3) := by decide +kernel
theorem d_l_law_706 : decode code 706 = .ok (.aload_n 2, 1) := by decide +kernel
theorem d_l_law_707 : decode code 707 = .ok (.invokevirtual 86, 3) := by decide +kernel
theorem d_l_law_710 : decode code 710 = .ok (.if_icmp .eq 398, 3) := by decide +kernel
theorem d_l_law_713 : decode code 713 = .ok (.iconst 0, 1) := by decide +kernel
theorem d_l_law_714 : decode code 714 = .ok (.ireturn, 1) := by decide +kernel
theorem d_l_law_715 : decode code 715 = .ok (.aload_n 1, 1) := by decide +kernel
theorem d_l_law_716 : decode code 716 = .ok (.aload_n 0, 1) := by decide +kernel
theorem d_l_law_717 : decode code 717 = .ok (.iload_n 3, 1) := by decide +kernel
theorem d_l_law_718 : decode code 718 = .ok (.iconst 1, 1) := by decide +kernel
theorem d_l_law_719 : decode code 719 = .ok (.iadd, 1) := by decide +kernel
theorem d_l_law_720 : decode code 720 = .ok (.iaload, 1) := by decide +kernel
theorem d_l_law_721 : decode code 721 = .ok (.invokevirtual 87, 3) := by decide +kernel
theorem d_l_law_724 : decode code 724 = .ok (.aload_n 2, 1) := by decide +kernel
theorem d_l_law_725 : decode code 725 = .ok (.aload_n 0, 1) := by decide +kernel
theorem d_l_law_726 : decode code 726 = .ok (.iload_n 3, 1) := by decide +kernel
theorem d_l_law_727 : decode code 727 = .ok (.iconst 1, 1) := by decide +kernel
theorem d_l_law_728 : decode code 728 = .ok (.iadd, 1) := by decide +kernel
theorem d_l_law_729 : decode code 729 = .ok (.iaload, 1) := by decide +kernel
theorem d_l_law_730 : decode code 730 = .ok (.invokevirtual 90, 3) := by decide +kernel
theorem d_l_law_733 : decode code 733 = .ok (.if_icmp .eq 375, 3) := by decide +kernel
theorem d_l_law_736 : decode code 736 = .ok (.iconst 0, 1) := by decide +kernel
theorem d_l_law_737 : decode code 737 = .ok (.ireturn, 1) := by decide +kernel
theorem d_l_law_738 : decode code 738 = .ok (.aload_n 1, 1) := by decide +kernel
theorem d_l_law_739 : decode code 739 = .ok (.aload_n 0, 1) := by decide +kernel
theorem d_l_law_740 : decode code 740 = .ok (.iload_n 3, 1) := by decide +kernel
theorem d_l_law_741 : decode code 741 = .ok (.iconst 1, 1) := by decide +kernel
theorem d_l_law_742 : decode code 742 = .ok (.iadd, 1) := by decide +kernel
theorem d_l_law_743 : decode code 743 = .ok (.iaload, 1) := by decide +kernel
theorem d_l_law_744 : decode code 744 = .ok (.invokevirtual 91, 3) := by decide +kernel
theorem d_l_law_747 : decode code 747 = .ok (.aload_n 2, 1) := by decide +kernel
theorem d_l_law_748 : decode code 748 = .ok (.aload_n 0, 1) := by decide +kernel
theorem d_l_law_749 : decode code 749 = .ok (.iload_n 3, 1) := by decide +kernel
theorem d_l_law_750 : decode code 750 = .ok (.iconst 1, 1) := by decide +kernel
theorem d_l_law_751 : decode code 751 = .ok (.iadd, 1) := by decide +kernel
theorem d_l_law_752 : decode code 752 = .ok (.iaload, 1) := by decide +kernel
theorem d_l_law_753 : decode code 753 = .ok (.invokevirtual 94, 3) := by decide +kernel
theorem d_l_law_756 : decode code 756 = .ok (.if_icmp .eq 352, 3) := by decide +kernel
theorem d_l_law_759 : decode code 759 = .ok (.iconst 0, 1) := by decide +kernel
theorem d_l_law_760 : decode code 760 = .ok (.ireturn, 1) := by decide +kernel
theorem d_l_law_761 : decode code 761 = .ok (.aload_n 1, 1) := by decide +kernel
theorem d_l_law_762 : decode code 762 = .ok (.aload_n 0, 1) := by decide +kernel
theorem d_l_law_763 : decode code 763 = .ok (.iload_n 3, 1) := by decide +kernel
theorem d_l_law_764 : decode code 764 = .ok (.iconst 1, 1) := by decide +kernel
theorem d_l_law_765 : decode code 765 = .ok (.iadd, 1) := by decide +kernel
theorem d_l_law_766 : decode code 766 = .ok (.iaload, 1) := by decide +kernel
theorem d_l_law_767 : decode code 767 = .ok (.invokevirtual 95, 3) := by decide +kernel
theorem d_l_law_770 : decode code 770 = .ok (.aload_n 2, 1) := by decide +kernel
theorem d_l_law_771 : decode code 771 = .ok (.aload_n 0, 1) := by decide +kernel
theorem d_l_law_772 : decode code 772 = .ok (.iload_n 3, 1) := by decide +kernel
theorem d_l_law_773 : decode code 773 = .ok (.iconst 1, 1) := by decide +kernel
theorem d_l_law_774 : decode code 774 = .ok (.iadd, 1) := by decide +kernel
theorem d_l_law_775 : decode code 775 = .ok (.iaload, 1) := by decide +kernel
theorem d_l_law_776 : decode code 776 = .ok (.invokevirtual 98, 3) := by decide +kernel
theorem d_l_law_779 : decode code 779 = .ok (.if_icmp .eq 329, 3) := by decide +kernel
theorem d_l_law_782 : decode code 782 = .ok (.iconst 0, 1) := by decide +kernel
theorem d_l_law_783 : decode code 783 = .ok (.ireturn, 1) := by decide +kernel
theorem d_l_law_784 : decode code 784 = .ok (.aload_n 1, 1) := by decide +kernel
theorem d_l_law_785 : decode code 785 = .ok (.aload_n 0, 1) := by decide +kernel
theorem d_l_law_786 : decode code 786 = .ok (.iload_n 3, 1) := by decide +kernel
theorem d_l_law_787 : decode code 787 = .ok (.iconst 1, 1) := by decide +kernel
theorem d_l_law_788 : decode code 788 = .ok (.iadd, 1) := by decide +kernel
theorem d_l_law_789 : decode code 789 = .ok (.iaload, 1) := by decide +kernel
theorem d_l_law_790 : decode code 790 = .ok (.invokevirtual 99, 3) := by decide +kernel
theorem d_l_law_793 : decode code 793 = .ok (.aload_n 2, 1) := by decide +kernel
theorem d_l_law_794 : decode code 794 = .ok (.aload_n 0, 1) := by decide +kernel
theorem d_l_law_795 : decode code 795 = .ok (.iload_n 3, 1) := by decide +kernel
theorem d_l_law_796 : decode code 796 = .ok (.iconst 1, 1) := by decide +kernel
theorem d_l_law_797 : decode code 797 = .ok (.iadd, 1) := by decide +kernel
theorem d_l_law_798 : decode code 798 = .ok (.iaload, 1) := by decide +kernel
theorem d_l_law_799 : decode code 799 = .ok (.invokevirtual 102, 3) := by decide +kernel
theorem d_l_law_802 : decode code 802 = .ok (.if_icmp .eq 306, 3) := by decide +kernel
theorem d_l_law_805 : decode code 805 = .ok (.iconst 0, 1) := by decide +kernel
theorem d_l_law_806 : decode code 806 = .ok (.ireturn, 1) := by decide +kernel
theorem d_l_law_807 : decode code 807 = .ok (.aload_n 1, 1) := by decide +kernel
theorem d_l_law_808 : decode code 808 = .ok (.aload_n 0, 1) := by decide +kernel
theorem d_l_law_809 : decode code 809 = .ok (.iload_n 3, 1) := by decide +kernel
theorem d_l_law_810 : decode code 810 = .ok (.iconst 1, 1) := by decide +kernel
theorem d_l_law_811 : decode code 811 = .ok (.iadd, 1) := by decide +kernel
theorem d_l_law_812 : decode code 812 = .ok (.iaload, 1) := by decide +kernel
theorem d_l_law_813 : decode code 813 = .ok (.invokevirtual 103, 3) := by decide +kernel
theorem d_l_law_816 : decode code 816 = .ok (.aload_n 2, 1) := by decide +kernel
theorem d_l_law_817 : decode code 817 = .ok (.aload_n 0, 1) := by decide +kernel
theorem d_l_law_818 : decode code 818 = .ok (.iload_n 3, 1) := by decide +kernel
theorem d_l_law_819 : decode code 819 = .ok (.iconst 1, 1) := by decide +kernel
theorem d_l_law_820 : decode code 820 = .ok (.iadd, 1) := by decide +kernel
theorem d_l_law_821 : decode code 821 = .ok (.iaload, 1) := by decide +kernel
theorem d_l_law_822 : decode code 822 = .ok (.invokevirtual 106, 3) := by decide +kernel
theorem d_l_law_825 : decode code 825 = .ok (.if_icmp .eq 283, 3) := by decide +kernel
theorem d_l_law_828 : decode code 828 = .ok (.iconst 0, 1) := by decide +kernel
theorem d_l_law_829 : decode code 829 = .ok (.ireturn, 1) := by decide +kernel
theorem d_l_law_830 : decode code 830 = .ok (.aload_n 1, 1) := by decide +kernel
theorem d_l_law_831 : decode code 831 = .ok (.aload_n 0, 1) := by decide +kernel
theorem d_l_law_832 : decode code 832 = .ok (.iload_n 3, 1) := by decide +kernel
theorem d_l_law_833 : decode code 833 = .ok (.iconst 1, 1) := by decide +kernel
theorem d_l_law_834 : decode code 834 = .ok (.iadd, 1) := by decide +kernel
theorem d_l_law_835 : decode code 835 = .ok (.iaload, 1) := by decide +kernel
theorem d_l_law_836 : decode code 836 = .ok (.invokevirtual 107, 3) := by decide +kernel
theorem d_l_law_839 : decode code 839 = .ok (.aload_n 2, 1) := by decide +kernel
theorem d_l_law_840 : decode code 840 = .ok (.aload_n 0, 1) := by decide +kernel
theorem d_l_law_841 : decode code 841 = .ok (.iload_n 3, 1) := by decide +kernel
theorem d_l_law_842 : decode code 842 = .ok (.iconst 1, 1) := by decide +kernel
theorem d_l_law_843 : decode code 843 = .ok (.iadd, 1) := by decide +kernel
theorem d_l_law_844 : decode code 844 = .ok (.iaload, 1) := by decide +kernel
theorem d_l_law_845 : decode code 845 = .ok (.invokevirtual 110, 3) := by decide +kernel
theorem d_l_law_848 : decode code 848 = .ok (.if_icmp .eq 260, 3) := by decide +kernel
theorem d_l_law_851 : decode code 851 = .ok (.iconst 0, 1) := by decide +kernel
theorem d_l_law_852 : decode code 852 = .ok (.ireturn, 1) := by decide +kernel
theorem d_l_law_853 : decode code 853 = .ok (.aload_n 1, 1) := by decide +kernel
theorem d_l_law_854 : decode code 854 = .ok (.invokevirtual 111, 3) := by decide +kernel
theorem d_l_law_857 : decode code 857 = .ok (.aload_n 2, 1) := by decide +kernel
theorem d_l_law_858 : decode code 858 = .ok (.invokevirtual 114, 3) := by decide +kernel
theorem d_l_law_861 : decode code 861 = .ok (.if_icmp .eq 247, 3) := by decide +kernel
theorem d_l_law_864 : decode code 864 = .ok (.iconst 0, 1) := by decide +kernel
theorem d_l_law_865 : decode code 865 = .ok (.ireturn, 1) := by decide +kernel
theorem d_l_law_866 : decode code 866 = .ok (.aload_n 1, 1) := by decide +kernel
theorem d_l_law_867 : decode code 867 = .ok (.invokevirtual 115, 3) := by decide +kernel
theorem d_l_law_870 : decode code 870 = .ok (.aload_n 2, 1) := by decide +kernel
theorem d_l_law_871 : decode code 871 = .ok (.invokevirtual 118, 3) := by decide +kernel
theorem d_l_law_874 : decode code 874 = .ok (.if_icmp .eq 234, 3) := by decide +kernel
theorem d_l_law_877 : decode code 877 = .ok (.iconst 0, 1) := by decide +kernel
theorem d_l_law_878 : decode code 878 = .ok (.ireturn, 1) := by decide +kernel
theorem d_l_law_879 : decode code 879 = .ok (.aload_n 1, 1) := by decide +kernel
theorem d_l_law_880 : decode code 880 = .ok (.aload_n 0, 1) := by decide +kernel
theorem d_l_law_881 : decode code 881 = .ok (.iload_n 3, 1) := by decide +kernel
theorem d_l_law_882 : decode code 882 = .ok (.iconst 1, 1) := by decide +kernel
theorem d_l_law_883 : decode code 883 = .ok (.iadd, 1) := by decide +kernel
theorem d_l_law_884 : decode code 884 = .ok (.iaload, 1) := by decide +kernel
theorem d_l_law_885 : decode code 885 = .ok (.aload_n 0, 1) := by decide +kernel
theorem d_l_law_886 : decode code 886 = .ok (.iload_n 3, 1) := by decide +kernel
theorem d_l_law_887 : decode code 887 = .ok (.iconst 2, 1) := by decide +kernel
theorem d_l_law_888 : decode code 888 = .ok (.iadd, 1) := by decide +kernel
theorem d_l_law_889 : decode code 889 = .ok (.iaload, 1) := by decide +kernel
theorem d_l_law_890 : decode code 890 = .ok (.invokevirtual 119, 3) := by decide +kernel
theorem d_l_law_893 : decode code 893 = .ok (.aload_n 2, 1) := by decide +kernel
theorem d_l_law_894 : decode code 894 = .ok (.aload_n 0, 1) := by decide +kernel
theorem d_l_law_895 : decode code 895 = .ok (.iload_n 3, 1) := by decide +kernel
theorem d_l_law_896 : decode code 896 = .ok (.iconst 1, 1) := by decide +kernel
theorem d_l_law_897 : decode code 897 = .ok (.iadd, 1) := by decide +kernel
theorem d_l_law_898 : decode code 898 = .ok (.iaload, 1) := by decide +kernel
theorem d_l_law_899 : decode code 899 = .ok (.aload_n 0, 1) := by decide +kernel
theorem d_l_law_900 : decode code 900 = .ok (.iload_n 3, 1) := by decide +kernel
theorem d_l_law_901 : decode code 901 = .ok (.iconst 2, 1) := by decide +kernel
theorem d_l_law_902 : decode code 902 = .ok (.iadd, 1) := by decide +kernel
theorem d_l_law_903 : decode code 903 = .ok (.iaload, 1) := by decide +kernel
theorem d_l_law_904 : decode code 904 = .ok (.invokevirtual 122, 3) := by decide +kernel
theorem d_l_law_907 : decode code 907 = .ok (.if_icmp .eq 201, 3) := by decide +kernel
theorem d_l_law_910 : decode code 910 = .ok (.iconst 0, 1) := by decide +kernel
theorem d_l_law_911 : decode code 911 = .ok (.ireturn, 1) := by decide +kernel
theorem d_l_law_912 : decode code 912 = .ok (.aload_n 1, 1) := by decide +kernel
theorem d_l_law_913 : decode code 913 = .ok (.invokevirtual 123, 3) := by decide +kernel
theorem d_l_law_916 : decode code 916 = .ok (.aload_n 2, 1) := by decide +kernel
theorem d_l_law_917 : decode code 917 = .ok (.invokevirtual 126, 3) := by decide +kernel
theorem d_l_law_920 : decode code 920 = .ok (.if_icmp .eq 188, 3) := by decide +kernel
theorem d_l_law_923 : decode code 923 = .ok (.iconst 0, 1) := by decide +kernel
theorem d_l_law_924 : decode code 924 = .ok (.ireturn, 1) := by decide +kernel
theorem d_l_law_925 : decode code 925 = .ok (.aload_n 1, 1) := by decide +kernel
theorem d_l_law_926 : decode code 926 = .ok (.invokevirtual 127, 3) := by decide +kernel
theorem d_l_law_929 : decode code 929 = .ok (.aload_n 2, 1) := by decide +kernel
theorem d_l_law_930 : decode code 930 = .ok (.invokevirtual 130, 3) := by decide +kernel
theorem d_l_law_933 : decode code 933 = .ok (.if_icmp .eq 175, 3) := by decide +kernel
theorem d_l_law_936 : decode code 936 = .ok (.iconst 0, 1) := by decide +kernel
theorem d_l_law_937 : decode code 937 = .ok (.ireturn, 1) := by decide +kernel
theorem d_l_law_938 : decode code 938 = .ok (.aload_n 1, 1) := by decide +kernel
theorem d_l_law_939 : decode code 939 = .ok (.aload_n 0, 1) := by decide +kernel
theorem d_l_law_940 : decode code 940 = .ok (.iload_n 3, 1) := by decide +kernel
theorem d_l_law_941 : decode code 941 = .ok (.iconst 1, 1) := by decide +kernel
theorem d_l_law_942 : decode code 942 = .ok (.iadd, 1) := by decide +kernel
theorem d_l_law_943 : decode code 943 = .ok (.iaload, 1) := by decide +kernel
theorem d_l_law_944 : decode code 944 = .ok (.aload_n 0, 1) := by decide +kernel
theorem d_l_law_945 : decode code 945 = .ok (.iload_n 3, 1) := by decide +kernel
theorem d_l_law_946 : decode code 946 = .ok (.iconst 2, 1) := by decide +kernel
theorem d_l_law_947 : decode code 947 = .ok (.iadd, 1) := by decide +kernel
theorem d_l_law_948 : decode code 948 = .ok (.iaload, 1) := by decide +kernel
theorem d_l_law_949 : decode code 949 = .ok (.invokevirtual 131, 3) := by decide +kernel
theorem d_l_law_952 : decode code 952 = .ok (.aload_n 2, 1) := by decide +kernel
theorem d_l_law_953 : decode code 953 = .ok (.aload_n 0, 1) := by decide +kernel
theorem d_l_law_954 : decode code 954 = .ok (.iload_n 3, 1) := by decide +kernel
theorem d_l_law_955 : decode code 955 = .ok (.iconst 1, 1) := by decide +kernel
theorem d_l_law_956 : decode code 956 = .ok (.iadd, 1) := by decide +kernel
theorem d_l_law_957 : decode code 957 = .ok (.iaload, 1) := by decide +kernel
theorem d_l_law_958 : decode code 958 = .ok (.aload_n 0, 1) := by decide +kernel
theorem d_l_law_959 : decode code 959 = .ok (.iload_n 3, 1) := by decide +kernel
theorem d_l_law_960 : decode code 960 = .ok (.iconst 2, 1) := by decide +kernel
theorem d_l_law_961 : decode code 961 = .ok (.iadd, 1) := by decide +kernel
theorem d_l_law_962 : decode code 962 = .ok (.iaload, 1) := by decide +kernel
theorem d_l_law_963 : decode code 963 = .ok (.invokevirtual 134, 3) := by decide +kernel
theorem d_l_law_966 : decode code 966 = .ok (.if_icmp .eq 142, 3) := by decide +kernel
theorem d_l_law_969 : decode code 969 = .ok (.iconst 0, 1) := by decide +kernel
theorem d_l_law_970 : decode code 970 = .ok (.ireturn, 1) := by decide +kernel
theorem d_l_law_971 : decode code 971 = .ok (.aload_n 1, 1) := by decide +kernel
theorem d_l_law_972 : decode code 972 = .ok (.invokevirtual 135, 3) := by decide +kernel
theorem d_l_law_975 : decode code 975 = .ok (.aload_n 2, 1) := by decide +kernel
theorem d_l_law_976 : decode code 976 = .ok (.invokevirtual 138, 3) := by decide +kernel
theorem d_l_law_979 : decode code 979 = .ok (.if_icmp .eq 129, 3) := by decide +kernel
theorem d_l_law_982 : decode code 982 = .ok (.iconst 0, 1) := by decide +kernel
theorem d_l_law_983 : decode code 983 = .ok (.ireturn, 1) := by decide +kernel
theorem d_l_law_984 : decode code 984 = .ok (.aload_n 1, 1) := by decide +kernel
theorem d_l_law_985 : decode code 985 = .ok (.invokevirtual 139, 3) := by decide +kernel
theorem d_l_law_988 : decode code 988 = .ok (.aload_n 2, 1) := by decide +kernel
theorem d_l_law_989 : decode code 989 = .ok (.invokevirtual 142, 3) := by decide +kernel
theorem d_l_law_992 : decode code 992 = .ok (.if_icmp .eq 116, 3) := by decide +kernel
theorem d_l_law_995 : decode code 995 = .ok (.iconst 0, 1) := by decide +kernel
theorem d_l_law_996 : decode code 996 = .ok (.ireturn, 1) := by decide +kernel
theorem d_l_law_997 : decode code 997 = .ok (.aload_n 1, 1) := by decide +kernel
theorem d_l_law_998 : decode code 998 = .ok (.invokevirtual 143, 3) := by decide +kernel
theorem d_l_law_1001 : decode code 1001 = .ok (.aload_n 2, 1) := by decide +kernel
theorem d_l_law_1002 : decode code 1002 = .ok (.invokevirtual 146, 3) := by decide +kernel
theorem d_l_law_1005 : decode code 1005 = .ok (.if_icmp .eq 103, 3) := by decide +kernel
theorem d_l_law_1008 : decode code 1008 = .ok (.iconst 0, 1) := by decide +kernel
theorem d_l_law_1009 : decode code 1009 = .ok (.ireturn, 1) := by decide +kernel
theorem d_l_law_1010 : decode code 1010 = .ok (.aload_n 1, 1) := by decide +kernel
theorem d_l_law_1011 : decode code 1011 = .ok (.invokevirtual 147, 3) := by decide +kernel
theorem d_l_law_1014 : decode code 1014 = .ok (.aload_n 2, 1) := by decide +kernel
theorem d_l_law_1015 : decode code 1015 = .ok (.invokevirtual 150, 3) := by decide +kernel
theorem d_l_law_1018 : decode code 1018 = .ok (.if_icmp .eq 90, 3) := by decide +kernel
theorem d_l_law_1021 : decode code 1021 = .ok (.iconst 0, 1) := by decide +kernel
theorem d_l_law_1022 : decode code 1022 = .ok (.ireturn, 1) := by decide +kernel
theorem d_l_law_1023 : decode code 1023 = .ok (.aload_n 1, 1) := by decide +kernel
theorem d_l_law_1024 : decode code 1024 = .ok (.invokevirtual 151, 3) := by decide +kernel
theorem d_l_law_1027 : decode code 1027 = .ok (.aload_n 2, 1) := by decide +kernel
theorem d_l_law_1028 : decode code 1028 = .ok (.invokevirtual 154, 3) := by decide +kernel
theorem d_l_law_1031 : decode code 1031 = .ok (.if_icmp .eq 77, 3) := by decide +kernel
theorem d_l_law_1034 : decode code 1034 = .ok (.iconst 0, 1) := by decide +kernel
theorem d_l_law_1035 : decode code 1035 = .ok (.ireturn, 1) := by decide +kernel
theorem d_l_law_1036 : decode code 1036 = .ok (.aload_n 1, 1) := by decide +kernel
theorem d_l_law_1037 : decode code 1037 = .ok (.invokevirtual 155, 3) := by decide +kernel
theorem d_l_law_1040 : decode code 1040 = .ok (.aload_n 2, 1) := by decide +kernel
theorem d_l_law_1041 : decode code 1041 = .ok (.invokevirtual 158, 3) := by decide +kernel
theorem d_l_law_1044 : decode code 1044 = .ok (.if_icmp .eq 64, 3) := by decide +kernel
theorem d_l_law_1047 : decode code 1047 = .ok (.iconst 0, 1) := by decide +kernel
theorem d_l_law_1048 : decode code 1048 = .ok (.ireturn, 1) := by decide +kernel
theorem d_l_law_1049 : decode code 1049 = .ok (.aload_n 1, 1) := by decide +kernel
theorem d_l_law_1050 : decode code 1050 = .ok (.invokevirtual 159, 3) := by decide +kernel
theorem d_l_law_1053 : decode code 1053 = .ok (.aload_n 2, 1) := by decide +kernel
theorem d_l_law_1054 : decode code 1054 = .ok (.invokevirtual 162, 3) := by decide +kernel
theorem d_l_law_1057 : decode code 1057 = .ok (.if_icmp .eq 51, 3) := by decide +kernel
theorem d_l_law_1060 : decode code 1060 = .ok (.iconst 0, 1) := by decide +kernel
theorem d_l_law_1061 : decode code 1061 = .ok (.ireturn, 1) := by decide +kernel
theorem d_l_law_1062 : decode code 1062 = .ok (.aload_n 1, 1) := by decide +kernel
theorem d_l_law_1063 : decode code 1063 = .ok (.aload_n 0, 1) := by decide +kernel
theorem d_l_law_1064 : decode code 1064 = .ok (.iload_n 3, 1) := by decide +kernel
theorem d_l_law_1065 : decode code 1065 = .ok (.iconst 1, 1) := by decide +kernel
theorem d_l_law_1066 : decode code 1066 = .ok (.iadd, 1) := by decide +kernel
theorem d_l_law_1067 : decode code 1067 = .ok (.iaload, 1) := by decide +kernel
theorem d_l_law_1068 : decode code 1068 = .ok (.invokevirtual 163, 3) := by decide +kernel
theorem d_l_law_1071 : decode code 1071 = .ok (.aload_n 2, 1) := by decide +kernel
theorem d_l_law_1072 : decode code 1072 = .ok (.aload_n 0, 1) := by decide +kernel
theorem d_l_law_1073 : decode code 1073 = .ok (.iload_n 3, 1) := by decide +kernel
theorem d_l_law_1074 : decode code 1074 = .ok (.iconst 1, 1) := by decide +kernel
theorem d_l_law_1075 : decode code 1075 = .ok (.iadd, 1) := by decide +kernel
theorem d_l_law_1076 : decode code 1076 = .ok (.iaload, 1) := by decide +kernel
theorem d_l_law_1077 : decode code 1077 = .ok (.invokevirtual 166, 3) := by decide +kernel
theorem d_l_law_1080 : decode code 1080 = .ok (.if_icmp .eq 28, 3) := by decide +kernel
theorem d_l_law_1083 : decode code 1083 = .ok (.iconst 0, 1) := by decide +kernel
theorem d_l_law_1084 : decode code 1084 = .ok (.ireturn, 1) := by decide +kernel
theorem d_l_law_1085 : decode code 1085 = .ok (.aload_n 1, 1) := by decide +kernel
theorem d_l_law_1086 : decode code 1086 = .ok (.aload_n 0, 1) := by decide +kernel
theorem d_l_law_1087 : decode code 1087 = .ok (.iload_n 3, 1) := by decide +kernel
theorem d_l_law_1088 : decode code 1088 = .ok (.iconst 1, 1) := by decide +kernel
theorem d_l_law_1089 : decode code 1089 = .ok (.iadd, 1) := by decide +kernel
theorem d_l_law_1090 : decode code 1090 = .ok (.iaload, 1) := by decide +kernel
theorem d_l_law_1091 : decode code 1091 = .ok (.invokevirtual 167, 3) := by decide +kernel
theorem d_l_law_1094 : decode code 1094 = .ok (.aload_n 2, 1) := by decide +kernel
theorem d_l_law_1095 : decode code 1095 = .ok (.aload_n 0, 1) := by decide +kernel
theorem d_l_law_1096 : decode code 1096 = .ok (.iload_n 3, 1) := by decide +kernel
theorem d_l_law_1097 : decode code 1097 = .ok (.iconst 1, 1) := by decide +kernel
theorem d_l_law_1098 : decode code 1098 = .ok (.iadd, 1) := by decide +kernel
theorem d_l_law_1099 : decode code 1099 = .ok (.iaload, 1) := by decide +kernel
theorem d_l_law_1100 : decode code 1100 = .ok (.invokevirtual 170, 3) := by decide +kernel
theorem d_l_law_1103 : decode code 1103 = .ok (.if_icmp .eq 5, 3) := by decide +kernel
theorem d_l_law_1106 : decode code 1106 = .ok (.iconst 0, 1) := by decide +kernel
theorem d_l_law_1107 : decode code 1107 = .ok (.ireturn, 1) := by decide +kernel
theorem d_l_law_1108 : decode code 1108 = .ok (.iinc 3 7, 3) := by decide +kernel
theorem d_l_law_1111 : decode code 1111 = .ok (.goto (-1093), 3) := by decide +kernel
theorem d_l_law_1114 : decode code 1114 = .ok (.iconst 1, 1) := by decide +kernel
theorem d_l_law_1115 : decode code 1115 = .ok (.ireturn, 1) := by decide +kernel
def Fl_law_18 : Nat → Nat → (Nat → Int) → Int → St → (St → Option (Int × St)) → Option (Int × St)
  | 0, _, _, _, _, _ => none
  | n + 1, L, xs, y3, σ, k => gmG (gmR ((L : Int) - 7)) (if ((L : Int) - 7) < y3 then k σ else gmG (0 ≤ y3 ∧ y3 < (L : Int)) (if ((xs (y3).toNat) % 64) = 0 then gmG (0 ≤ (y3 + 1) ∧ (y3 + 1) < (L : Int)) (gmG (0 ≤ (y3 + 2) ∧ (y3 + 2) < (L : Int)) (gmG (0 ≤ (y3 + 3) ∧ (y3 + 3) < (L : Int)) (gmG (0 ≤ (y3 + 4) ∧ (y3 + 4) < (L : Int)) (gmG (0 ≤ (y3 + 5) ∧ (y3 + 5) < (L : Int)) (gmG (0 ≤ (y3 + 6) ∧ (y3 + 6) < (L : Int)) (gmB (Fx_definePiece (xs ((y3 + 1)).toNat) (xs ((y3 + 2)).toNat) (xs ((y3 + 3)).toNat) (xs ((y3 + 4)).toNat) (xs ((y3 + 5)).toNat) (xs ((y3 + 6)).toNat) σ) (fun r12 s11 => gmB (Fm_definePiece (xs ((y3 + 1)).toNat) (xs ((y3 + 2)).toNat) (xs ((y3 + 3)).toNat) (xs ((y3 + 4)).toNat) (xs ((y3 + 5)).toNat) (xs ((y3 + 6)).toNat) s11) (fun r14 s13 => if r12 = r14 then gmG (gmR (y3 + 7)) (Fl_law_18 n L xs (y3 + 7) s13 k) else some (0, s13))))))))) else (if ((xs (y3).toNat) % 64) = 1 then gmG (0 ≤ (y3 + 1) ∧ (y3 + 1) < (L : Int)) (gmB (Fx_removePiece (xs ((y3 + 1)).toNat) σ) (fun r20 s19 => gmB (Fm_removePiece (xs ((y3 + 1)).toNat) s19) (fun r22 s21 => if r20 = r22 then gmG (gmR (y3 + 7)) (Fl_law_18 n L xs (y3 + 7) s21 k) else some (0, s21)))) else (if ((xs (y3).toNat) % 64) = 2 then gmG (0 ≤ (y3 + 1) ∧ (y3 + 1) < (L : Int)) (gmG (0 ≤ (y3 + 2) ∧ (y3 + 2) < (L : Int)) (gmB (Fx_pieceWidth (xs ((y3 + 1)).toNat) (xs ((y3 + 2)).toNat) σ) (fun r29 s28 => gmB (Fm_pieceWidth (xs ((y3 + 1)).toNat) (xs ((y3 + 2)).toNat) s28) (fun r31 s30 => if r29 = r31 then gmG (gmR (y3 + 7)) (Fl_law_18 n L xs (y3 + 7) s30 k) else some (0, s30))))) else (if ((xs (y3).toNat) % 64) = 3 then gmG (0 ≤ (y3 + 1) ∧ (y3 + 1) < (L : Int)) (gmG (0 ≤ (y3 + 2) ∧ (y3 + 2) < (L : Int)) (gmB (Fx_pieceLength (xs ((y3 + 1)).toNat) (xs ((y3 + 2)).toNat) σ) (fun r38 s37 => gmB (Fm_pieceLength (xs ((y3 + 1)).toNat) (xs ((y3 + 2)).toNat) s37) (fun r40 s39 => if r38 = r40 then gmG (gmR (y3 + 7)) (Fl_law_18 n L xs (y3 + 7) s39 k) else some (0, s39))))) else (if ((xs (y3).toNat) % 64) = 4 then gmG (0 ≤ (y3 + 1) ∧ (y3 + 1) < (L : Int)) (gmG (0 ≤ (y3 + 2) ∧ (y3 + 2) < (L : Int)) (gmG (0 ≤ (y3 + 3) ∧ (y3 + 3) < (L : Int)) (gmG (0 ≤ (y3 + 4) ∧ (y3 + 4) < (L : Int)) (gmG (0 ≤ (y3 + 5) ∧ (y3 + 5) < (L : Int)) (gmB (Fx_addSeam (xs ((y3 + 1)).toNat) (xs ((y3 + 2)).toNat) (xs ((y3 + 3)).toNat) (xs ((y3 + 4)).toNat) (xs ((y3 + 5)).toNat) σ) (fun r50 s49 => gmB (Fm_addSeam (xs ((y3 + 1)).toNat) (xs ((y3 + 2)).toNat) (xs ((y3 + 3)).toNat) (xs ((y3 + 4)).toNat) (xs ((y3 + 5)).toNat) s49) (fun r52 s51 => if r50 = r52 then gmG (gmR (y3 + 7)) (Fl_law_18 n L xs (y3 + 7) s51 k) else some (0, s51)))))))) else (if ((xs (y3).toNat) % 64) = 5 then gmB (Fx_seamCount σ) (fun r57 s56 => gmB (Fm_seamCount s56) (fun r59 s58 => if r57 = r59 then gmG (gmR (y3 + 7)) (Fl_law_18 n L xs (y3 + 7) s58 k) else some (0, s58))) else (if ((xs (y3).toNat) % 64) = 6 then gmG (0 ≤ (y3 + 1) ∧ (y3 + 1) < (L : Int)) (gmG (0 ≤ (y3 + 2) ∧ (y3 + 2) < (L : Int)) (gmB (Fx_seamDifference (xs ((y3 + 1)).toNat) (xs ((y3 + 2)).toNat) σ) (fun r66 s65 => gmB (Fm_seamDifference (xs ((y3 + 1)).toNat) (xs ((y3 + 2)).toNat) s65) (fun r68 s67 => if r66 = r68 then gmG (gmR (y3 + 7)) (Fl_law_18 n L xs (y3 + 7) s67 k) else some (0, s67))))) else (if ((xs (y3).toNat) % 64) = 7 then gmB (Fx_matchingSeams σ) (fun r73 s72 => gmB (Fm_matchingSeams s72) (fun r75 s74 => if r73 = r75 then gmG (gmR (y3 + 7)) (Fl_law_18 n L xs (y3 + 7) s74 k) else some (0, s74))) else (if ((xs (y3).toNat) % 64) = 8 then gmB (Fx_firstMismatch σ) (fun r80 s79 => gmB (Fm_firstMismatch s79) (fun r82 s81 => if r80 = r82 then gmG (gmR (y3 + 7)) (Fl_law_18 n L xs (y3 + 7) s81 k) else some (0, s81))) else (if ((xs (y3).toNat) % 64) = 9 then gmG (0 ≤ (y3 + 1) ∧ (y3 + 1) < (L : Int)) (gmG (0 ≤ (y3 + 2) ∧ (y3 + 2) < (L : Int)) (gmB (Fx_setRatio (xs ((y3 + 1)).toNat) (xs ((y3 + 2)).toNat) σ) (fun r89 s88 => gmB (Fm_setRatio (xs ((y3 + 1)).toNat) (xs ((y3 + 2)).toNat) s88) (fun r91 s90 => if r89 = r91 then gmG (gmR (y3 + 7)) (Fl_law_18 n L xs (y3 + 7) s90 k) else some (0, s90))))) else (if ((xs (y3).toNat) % 64) = 10 then gmG (0 ≤ (y3 + 1) ∧ (y3 + 1) < (L : Int)) (gmB (Fx_ratio (xs ((y3 + 1)).toNat) σ) (fun r97 s96 => gmB (Fm_ratio (xs ((y3 + 1)).toNat) s96) (fun r99 s98 => if r97 = r99 then gmG (gmR (y3 + 7)) (Fl_law_18 n L xs (y3 + 7) s98 k) else some (0, s98)))) else (if ((xs (y3).toNat) % 64) = 11 then gmG (0 ≤ (y3 + 1) ∧ (y3 + 1) < (L : Int)) (gmB (Fx_setClothWidth (xs ((y3 + 1)).toNat) σ) (fun r105 s104 => gmB (Fm_setClothWidth (xs ((y3 + 1)).toNat) s104) (fun r107 s106 => if r105 = r107 then gmG (gmR (y3 + 7)) (Fl_law_18 n L xs (y3 + 7) s106 k) else some (0, s106)))) else (if ((xs (y3).toNat) % 64) = 12 then gmG (0 ≤ (y3 + 1) ∧ (y3 + 1) < (L : Int)) (gmB (Fx_setFolded (if (xs ((y3 + 1)).toNat) = 0 then 0 else 1) σ) (fun r114 s113 => gmB (Fm_setFolded (if (xs ((y3 + 1)).toNat) = 0 then 0 else 1) s113) (fun r117 s116 => if r114 = r117 then gmG (gmR (y3 + 7)) (Fl_law_18 n L xs (y3 + 7) s116 k) else some (0, s116)))) else (if ((xs (y3).toNat) % 64) = 13 then gmG (0 ≤ (y3 + 1) ∧ (y3 + 1) < (L : Int)) (gmB (Fx_setRotation (if (xs ((y3 + 1)).toNat) = 0 then 0 else 1) σ) (fun r124 s123 => gmB (Fm_setRotation (if (xs ((y3 + 1)).toNat) = 0 then 0 else 1) s123) (fun r127 s126 => if r124 = r127 then gmG (gmR (y3 + 7)) (Fl_law_18 n L xs (y3 + 7) s126 k) else some (0, s126)))) else (if ((xs (y3).toNat) % 64) = 14 then gmG (0 ≤ (y3 + 1) ∧ (y3 + 1) < (L : Int)) (gmG (0 ≤ (y3 + 2) ∧ (y3 + 2) < (L : Int)) (gmB (Fx_setPacking (xs ((y3 + 1)).toNat) (xs ((y3 + 2)).toNat) σ) (fun r134 s133 => gmB (Fm_setPacking (xs ((y3 + 1)).toNat) (xs ((y3 + 2)).toNat) s133) (fun r136 s135 => if r134 = r136 then gmG (gmR (y3 + 7)) (Fl_law_18 n L xs (y3 + 7) s135 k) else some (0, s135))))) else (if ((xs (y3).toNat) % 64) = 15 then gmB (Fx_partCount σ) (fun r141 s140 => gmB (Fm_partCount s140) (fun r143 s142 => if r141 = r143 then gmG (gmR (y3 + 7)) (Fl_law_18 n L xs (y3 + 7) s142 k) else some (0, s142))) else (if ((xs (y3).toNat) % 64) = 16 then gmB (Fx_foldPartCount σ) (fun r148 s147 => gmB (Fm_foldPartCount s147) (fun r150 s149 => if r148 = r150 then gmG (gmR (y3 + 7)) (Fl_law_18 n L xs (y3 + 7) s149 k) else some (0, s149))) else (if ((xs (y3).toNat) % 64) = 17 then gmG (0 ≤ (y3 + 1) ∧ (y3 + 1) < (L : Int)) (gmB (Fx_partSize (xs ((y3 + 1)).toNat) σ) (fun r156 s155 => gmB (Fm_partSize (xs ((y3 + 1)).toNat) s155) (fun r158 s157 => if r156 = r158 then gmG (gmR (y3 + 7)) (Fl_law_18 n L xs (y3 + 7) s157 k) else some (0, s157)))) else (if ((xs (y3).toNat) % 64) = 18 then gmG (0 ≤ (y3 + 1) ∧ (y3 + 1) < (L : Int)) (gmB (Fx_partPiece (xs ((y3 + 1)).toNat) σ) (fun r164 s163 => gmB (Fm_partPiece (xs ((y3 + 1)).toNat) s163) (fun r166 s165 => if r164 = r166 then gmG (gmR (y3 + 7)) (Fl_law_18 n L xs (y3 + 7) s165 k) else some (0, s165)))) else (if ((xs (y3).toNat) % 64) = 19 then gmG (0 ≤ (y3 + 1) ∧ (y3 + 1) < (L : Int)) (gmB (Fx_partAlong (xs ((y3 + 1)).toNat) σ) (fun r172 s171 => gmB (Fm_partAlong (xs ((y3 + 1)).toNat) s171) (fun r174 s173 => if r172 = r174 then gmG (gmR (y3 + 7)) (Fl_law_18 n L xs (y3 + 7) s173 k) else some (0, s173)))) else (if ((xs (y3).toNat) % 64) = 20 then gmG (0 ≤ (y3 + 1) ∧ (y3 + 1) < (L : Int)) (gmB (Fx_partAcross (xs ((y3 + 1)).toNat) σ) (fun r180 s179 => gmB (Fm_partAcross (xs ((y3 + 1)).toNat) s179) (fun r182 s181 => if r180 = r182 then gmG (gmR (y3 + 7)) (Fl_law_18 n L xs (y3 + 7) s181 k) else some (0, s181)))) else (if ((xs (y3).toNat) % 64) = 21 then gmG (0 ≤ (y3 + 1) ∧ (y3 + 1) < (L : Int)) (gmB (Fx_partAlongExtent (xs ((y3 + 1)).toNat) σ) (fun r188 s187 => gmB (Fm_partAlongExtent (xs ((y3 + 1)).toNat) s187) (fun r190 s189 => if r188 = r190 then gmG (gmR (y3 + 7)) (Fl_law_18 n L xs (y3 + 7) s189 k) else some (0, s189)))) else (if ((xs (y3).toNat) % 64) = 22 then gmG (0 ≤ (y3 + 1) ∧ (y3 + 1) < (L : Int)) (gmB (Fx_partAcrossExtent (xs ((y3 + 1)).toNat) σ) (fun r196 s195 => gmB (Fm_partAcrossExtent (xs ((y3 + 1)).toNat) s195) (fun r198 s197 => if r196 = r198 then gmG (gmR (y3 + 7)) (Fl_law_18 n L xs (y3 + 7) s197 k) else some (0, s197)))) else (if ((xs (y3).toNat) % 64) = 23 then gmB (Fx_markerLength σ) (fun r203 s202 => gmB (Fm_markerLength s202) (fun r205 s204 => if r203 = r205 then gmG (gmR (y3 + 7)) (Fl_law_18 n L xs (y3 + 7) s204 k) else some (0, s204))) else (if ((xs (y3).toNat) % 64) = 24 then gmB (Fx_wastedArea σ) (fun r210 s209 => gmB (Fm_wastedArea s209) (fun r212 s211 => if r210 = r212 then gmG (gmR (y3 + 7)) (Fl_law_18 n L xs (y3 + 7) s211 k) else some (0, s211))) else (if ((xs (y3).toNat) % 64) = 25 then gmG (0 ≤ (y3 + 1) ∧ (y3 + 1) < (L : Int)) (gmG (0 ≤ (y3 + 2) ∧ (y3 + 2) < (L : Int)) (gmB (Fx_markerLengthWith (xs ((y3 + 1)).toNat) (xs ((y3 + 2)).toNat) σ) (fun r219 s218 => gmB (Fm_markerLengthWith (xs ((y3 + 1)).toNat) (xs ((y3 + 2)).toNat) s218) (fun r221 s220 => if r219 = r221 then gmG (gmR (y3 + 7)) (Fl_law_18 n L xs (y3 + 7) s220 k) else some (0, s220))))) else (if ((xs (y3).toNat) % 64) = 26 then gmB (Fx_bestLength σ) (fun r226 s225 => gmB (Fm_bestLength s225) (fun r228 s227 => if r226 = r228 then gmG (gmR (y3 + 7)) (Fl_law_18 n L xs (y3 + 7) s227 k) else some (0, s227))) else (if ((xs (y3).toNat) % 64) = 27 then gmB (Fx_bestPacking σ) (fun r233 s232 => gmB (Fm_bestPacking s232) (fun r235 s234 => if r233 = r235 then gmG (gmR (y3 + 7)) (Fl_law_18 n L xs (y3 + 7) s234 k) else some (0, s234))) else (if ((xs (y3).toNat) % 64) = 28 then gmG (0 ≤ (y3 + 1) ∧ (y3 + 1) < (L : Int)) (gmG (0 ≤ (y3 + 2) ∧ (y3 + 2) < (L : Int)) (gmB (Fx_setOrdered (xs ((y3 + 1)).toNat) (xs ((y3 + 2)).toNat) σ) (fun r242 s241 => gmB (Fm_setOrdered (xs ((y3 + 1)).toNat) (xs ((y3 + 2)).toNat) s241) (fun r244 s243 => if r242 = r244 then gmG (gmR (y3 + 7)) (Fl_law_18 n L xs (y3 + 7) s243 k) else some (0, s243))))) else (if ((xs (y3).toNat) % 64) = 29 then gmB (Fx_plies σ) (fun r249 s248 => gmB (Fm_plies s248) (fun r251 s250 => if r249 = r251 then gmG (gmR (y3 + 7)) (Fl_law_18 n L xs (y3 + 7) s250 k) else some (0, s250))) else (if ((xs (y3).toNat) % 64) = 30 then gmB (Fx_clothLength σ) (fun r256 s255 => gmB (Fm_clothLength s255) (fun r258 s257 => if r256 = r258 then gmG (gmR (y3 + 7)) (Fl_law_18 n L xs (y3 + 7) s257 k) else some (0, s257))) else (if ((xs (y3).toNat) % 64) = 31 then gmB (Fx_surplus σ) (fun r263 s262 => gmB (Fm_surplus s262) (fun r265 s264 => if r263 = r265 then gmG (gmR (y3 + 7)) (Fl_law_18 n L xs (y3 + 7) s264 k) else some (0, s264))) else (if ((xs (y3).toNat) % 64) = 32 then gmB (Fx_goodMixes σ) (fun r270 s269 => gmB (Fm_goodMixes s269) (fun r272 s271 => if r270 = r272 then gmG (gmR (y3 + 7)) (Fl_law_18 n L xs (y3 + 7) s271 k) else some (0, s271))) else (if ((xs (y3).toNat) % 64) = 33 then gmB (Fx_bestMix σ) (fun r277 s276 => gmB (Fm_bestMix s276) (fun r279 s278 => if r277 = r279 then gmG (gmR (y3 + 7)) (Fl_law_18 n L xs (y3 + 7) s278 k) else some (0, s278))) else (if ((xs (y3).toNat) % 64) = 34 then gmB (Fx_bestMixCloth σ) (fun r284 s283 => gmB (Fm_bestMixCloth s283) (fun r286 s285 => if r284 = r286 then gmG (gmR (y3 + 7)) (Fl_law_18 n L xs (y3 + 7) s285 k) else some (0, s285))) else (if ((xs (y3).toNat) % 64) = 35 then gmB (Fx_applyBestMix σ) (fun r291 s290 => gmB (Fm_applyBestMix s290) (fun r293 s292 => if r291 = r293 then gmG (gmR (y3 + 7)) (Fl_law_18 n L xs (y3 + 7) s292 k) else some (0, s292))) else (if ((xs (y3).toNat) % 64) = 36 then gmG (0 ≤ (y3 + 1) ∧ (y3 + 1) < (L : Int)) (gmB (Fx_save (xs ((y3 + 1)).toNat) σ) (fun r299 s298 => gmB (Fm_save (xs ((y3 + 1)).toNat) s298) (fun r301 s300 => if r299 = r301 then gmG (gmR (y3 + 7)) (Fl_law_18 n L xs (y3 + 7) s300 k) else some (0, s300)))) else (if ((xs (y3).toNat) % 64) = 37 then gmG (0 ≤ (y3 + 1) ∧ (y3 + 1) < (L : Int)) (gmB (Fx_restore (xs ((y3 + 1)).toNat) σ) (fun r307 s306 => gmB (Fm_restore (xs ((y3 + 1)).toNat) s306) (fun r309 s308 => if r307 = r309 then gmG (gmR (y3 + 7)) (Fl_law_18 n L xs (y3 + 7) s308 k) else some (0, s308)))) else (gmG (gmR (y3 + 7)) (Fl_law_18 n L xs (y3 + 7) σ k)))))))))))))))))))))))))))))))))))))))))
set_option maxRecDepth 100000 in
set_option maxHeartbeats 4000000 in
theorem Wl_law_18 {φ : Fx} {rv : Int} {rs : St} {L : Nat} {xs : Nat → Int} (hG : Good φ "GarmentMarkerLaw" code 4 10 229) (hF : FinL φ rv rs) (hX : gmX φ L xs) (hLr : gmR (L : Int)) (hxs : ∀ j, gmR (xs j)) : ∀ (n : Nat) {y3 : Int} {σ : St} {k : St → Option (Int × St)}, gmR y3 → Fl_law_18 n L xs y3 σ k = some (rv, rs) → (∀ {τ : St}, k τ = some (rv, rs) → J φ τ 1114 [] []) → J φ σ 18 [(0, .inr 150), (1, .inr 0), (2, .inr 133), (3, .inl y3)] [] := by
  intro n
  induction n with
  | zero =>
    intro _ _ _ _ h
    exact absurd h (by rw [Fl_law_18.eq_1]; exact fun q => by cases q)
  | succ n ih =>
    intro y3 σ k r3 h hk
    rw [Fl_law_18.eq_2] at h
    refine gm_ok (fun hO => ?_)
    refine gm_iload_n hG 3 d_l_law_18 rfl rfl ?_
    refine gm_aload_n hG 0 d_l_law_19 rfl rfl ?_
    refine gm_slen hG hX d_l_law_20 ?_
    refine gm_bipush hG d_l_law_21 (by decide) ?_
    refine gm_isub hG d_l_law_23 ?_
    obtain ⟨g1, h⟩ := gmG_of h
    refine gm_icmp_gt (tgt := 1114) hG d_l_law_24 (by decide) r3 g1 (fun c2 => ?_) (fun c2 => ?_)
    · replace h := gmI_pos c2 h
      refine gm_sub [] rfl ?_
      exact hk h
    · replace h := gmI_neg c2 h
      refine gm_aload_n hG 0 d_l_law_27 rfl rfl ?_
      refine gm_iload_n hG 3 d_l_law_28 rfl rfl ?_
      obtain ⟨g3, h⟩ := gmG_of h
      refine gm_sld hG hX g3 d_l_law_29 ?_
      refine gm_bipush hG d_l_law_30 (by decide) ?_
      refine gm_iand63 hG d_l_law_32 (fun _ => ?_)
      by_cases c4 : ((xs (y3).toNat) % 64) = 0
      · replace h := gmI_pos c4 h
        refine gm_tswIn (tgt := 200) hG 0 c4 (by decide) rfl d_l_law_33 (by decide) ?_
        refine gm_aload_n hG 1 d_l_law_200 rfl rfl ?_
        refine gm_aload_n hG 0 d_l_law_201 rfl rfl ?_
        refine gm_iload_n hG 3 d_l_law_202 rfl rfl ?_
        refine gm_iconst hG d_l_law_203 ?_
        refine gm_iadd hG d_l_law_204 ?_
        obtain ⟨g5, h⟩ := gmG_of h
        refine gm_sld hG hX g5 d_l_law_205 ?_
        refine gm_aload_n hG 0 d_l_law_206 rfl rfl ?_
        refine gm_iload_n hG 3 d_l_law_207 rfl rfl ?_
        refine gm_iconst hG d_l_law_208 ?_
        refine gm_iadd hG d_l_law_209 ?_
        obtain ⟨g6, h⟩ := gmG_of h
        refine gm_sld hG hX g6 d_l_law_210 ?_
        refine gm_aload_n hG 0 d_l_law_211 rfl rfl ?_
        refine gm_iload_n hG 3 d_l_law_212 rfl rfl ?_
        refine gm_iconst hG d_l_law_213 ?_
        refine gm_iadd hG d_l_law_214 ?_
        obtain ⟨g7, h⟩ := gmG_of h
        refine gm_sld hG hX g7 d_l_law_215 ?_
        refine gm_aload_n hG 0 d_l_law_216 rfl rfl ?_
        refine gm_iload_n hG 3 d_l_law_217 rfl rfl ?_
        refine gm_iconst hG d_l_law_218 ?_
        refine gm_iadd hG d_l_law_219 ?_
        obtain ⟨g8, h⟩ := gmG_of h
        refine gm_sld hG hX g8 d_l_law_220 ?_
        refine gm_aload_n hG 0 d_l_law_221 rfl rfl ?_
        refine gm_iload_n hG 3 d_l_law_222 rfl rfl ?_
        refine gm_iconst hG d_l_law_223 ?_
        refine gm_iadd hG d_l_law_224 ?_
        obtain ⟨g9, h⟩ := gmG_of h
        refine gm_sld hG hX g9 d_l_law_225 ?_
        refine gm_aload_n hG 0 d_l_law_226 rfl rfl ?_
        refine gm_iload_n hG 3 d_l_law_227 rfl rfl ?_
        refine gm_bipush hG d_l_law_228 (by decide) ?_
        refine gm_iadd hG d_l_law_230 ?_
        obtain ⟨g10, h⟩ := gmG_of h
        refine gm_sld hG hX g10 d_l_law_231 ?_
        obtain ⟨r12, s11, es11, h⟩ := gmB_of h
        refine gm_callVi hG [.inl (xs ((y3 + 1)).toNat), .inl (xs ((y3 + 2)).toNat), .inl (xs ((y3 + 3)).toNat), .inl (xs ((y3 + 4)).toNat), .inl (xs ((y3 + 5)).toNat), .inl (xs ((y3 + 6)).toNat)] [] gmM_L_13 (Wx_definePiece (hxs ((y3 + 1)).toNat) (hxs ((y3 + 2)).toNat) (hxs ((y3 + 3)).toNat) (hxs ((y3 + 4)).toNat) (hxs ((y3 + 5)).toNat) (hxs ((y3 + 6)).toNat) es11) gmKc_0 rfl (by decide) (Nat.le_of_ble_eq_true rfl) rfl d_l_law_232 (fun qr12 => ?_)
        refine gm_ok (fun hOs11 => ?_)
        refine gm_aload_n hG 2 d_l_law_235 rfl rfl ?_
        refine gm_aload_n hG 0 d_l_law_236 rfl rfl ?_
        refine gm_iload_n hG 3 d_l_law_237 rfl rfl ?_
        refine gm_iconst hG d_l_law_238 ?_
        refine gm_iadd hG d_l_law_239 ?_
        refine gm_sld hG hX g5 d_l_law_240 ?_
        refine gm_aload_n hG 0 d_l_law_241 rfl rfl ?_
        refine gm_iload_n hG 3 d_l_law_242 rfl rfl ?_
        refine gm_iconst hG d_l_law_243 ?_
        refine gm_iadd hG d_l_law_244 ?_
        refine gm_sld hG hX g6 d_l_law_245 ?_
        refine gm_aload_n hG 0 d_l_law_246 rfl rfl ?_
        refine gm_iload_n hG 3 d_l_law_247 rfl rfl ?_
        refine gm_iconst hG d_l_law_248 ?_
        refine gm_iadd hG d_l_law_249 ?_
        refine gm_sld hG hX g7 d_l_law_250 ?_
        refine gm_aload_n hG 0 d_l_law_251 rfl rfl ?_
        refine gm_iload_n hG 3 d_l_law_252 rfl rfl ?_
        refine gm_iconst hG d_l_law_253 ?_
        refine gm_iadd hG d_l_law_254 ?_
        refine gm_sld hG hX g8 d_l_law_255 ?_
        refine gm_aload_n hG 0 d_l_law_256 rfl rfl ?_
        refine gm_iload_n hG 3 d_l_law_257 rfl rfl ?_
        refine gm_iconst hG d_l_law_258 ?_
        refine gm_iadd hG d_l_law_259 ?_
        refine gm_sld hG hX g9 d_l_law_260 ?_
        refine gm_aload_n hG 0 d_l_law_261 rfl rfl ?_
        refine gm_iload_n hG 3 d_l_law_262 rfl rfl ?_
        refine gm_bipush hG d_l_law_263 (by decide) ?_
        refine gm_iadd hG d_l_law_265 ?_
        refine gm_sld hG hX g10 d_l_law_266 ?_
        obtain ⟨r14, s13, es13, h⟩ := gmB_of h
        refine gm_callVi hG [.inl (xs ((y3 + 1)).toNat), .inl (xs ((y3 + 2)).toNat), .inl (xs ((y3 + 3)).toNat), .inl (xs ((y3 + 4)).toNat), .inl (xs ((y3 + 5)).toNat), .inl (xs ((y3 + 6)).toNat)] [.inl r12] gmM_L_17 (Wm_definePiece (hxs ((y3 + 1)).toNat) (hxs ((y3 + 2)).toNat) (hxs ((y3 + 3)).toNat) (hxs ((y3 + 4)).toNat) (hxs ((y3 + 5)).toNat) (hxs ((y3 + 6)).toNat) es13) gmKc_133 rfl (by decide) (Nat.le_of_ble_eq_true rfl) rfl d_l_law_267 (fun qr14 => ?_)
        refine gm_ok (fun hOs13 => ?_)
        refine gm_icmp_eq (tgt := 1108) hG d_l_law_270 (by decide) qr12 qr14 (fun c15 => ?_) (fun c15 => ?_)
        · replace h := gmI_pos c15 h
          refine gm_iinc (lv' := [(3, .inl (y3 + 7)), (0, .inr 150), (1, .inr 0), (2, .inr 133)]) hG 3 d_l_law_1108 rfl (by decide) rfl ?_
          refine gm_goto (tgt := 18) hG d_l_law_1111 (by decide) ?_
          obtain ⟨g16, h⟩ := gmG_of h
          refine gm_sub [1, 2, 3, 0] rfl ?_
          exact ih g16 h hk
        · replace h := gmI_neg c15 h
          refine gm_iconst hG d_l_law_273 ?_
          exact gm_lret hF h d_l_law_274
      · replace h := gmI_neg c4 h
        by_cases c17 : ((xs (y3).toNat) % 64) = 1
        · replace h := gmI_pos c17 h
          refine gm_tswIn (tgt := 275) hG 1 c17 (by decide) rfl d_l_law_33 (by decide) ?_
          refine gm_aload_n hG 1 d_l_law_275 rfl rfl ?_
          refine gm_aload_n hG 0 d_l_law_276 rfl rfl ?_
          refine gm_iload_n hG 3 d_l_law_277 rfl rfl ?_
          refine gm_iconst hG d_l_law_278 ?_
          refine gm_iadd hG d_l_law_279 ?_
          obtain ⟨g18, h⟩ := gmG_of h
          refine gm_sld hG hX g18 d_l_law_280 ?_
          obtain ⟨r20, s19, es19, h⟩ := gmB_of h
          refine gm_callVi hG [.inl (xs ((y3 + 1)).toNat)] [] gmM_L_18 (Wx_removePiece (hxs ((y3 + 1)).toNat) es19) gmKc_0 rfl (by decide) (Nat.le_of_ble_eq_true rfl) rfl d_l_law_281 (fun qr20 => ?_)
          refine gm_ok (fun hOs19 => ?_)
          refine gm_aload_n hG 2 d_l_law_284 rfl rfl ?_
          refine gm_aload_n hG 0 d_l_law_285 rfl rfl ?_
          refine gm_iload_n hG 3 d_l_law_286 rfl rfl ?_
          refine gm_iconst hG d_l_law_287 ?_
          refine gm_iadd hG d_l_law_288 ?_
          refine gm_sld hG hX g18 d_l_law_289 ?_
          obtain ⟨r22, s21, es21, h⟩ := gmB_of h
          refine gm_callVi hG [.inl (xs ((y3 + 1)).toNat)] [.inl r20] gmM_L_22 (Wm_removePiece (hxs ((y3 + 1)).toNat) es21) gmKc_133 rfl (by decide) (Nat.le_of_ble_eq_true rfl) rfl d_l_law_290 (fun qr22 => ?_)
          refine gm_ok (fun hOs21 => ?_)
          refine gm_icmp_eq (tgt := 1108) hG d_l_law_293 (by decide) qr20 qr22 (fun c23 => ?_) (fun c23 => ?_)
          · replace h := gmI_pos c23 h
            refine gm_iinc (lv' := [(3, .inl (y3 + 7)), (0, .inr 150), (1, .inr 0), (2, .inr 133)]) hG 3 d_l_law_1108 rfl (by decide) rfl ?_
            refine gm_goto (tgt := 18) hG d_l_law_1111 (by decide) ?_
            obtain ⟨g24, h⟩ := gmG_of h
            refine gm_sub [1, 2, 3, 0] rfl ?_
            exact ih g24 h hk
          · replace h := gmI_neg c23 h
            refine gm_iconst hG d_l_law_296 ?_
            exact gm_lret hF h d_l_law_297
        · replace h := gmI_neg c17 h
          by_cases c25 : ((xs (y3).toNat) % 64) = 2
          · replace h := gmI_pos c25 h
            refine gm_tswIn (tgt := 298) hG 2 c25 (by decide) rfl d_l_law_33 (by decide) ?_
            refine gm_aload_n hG 1 d_l_law_298 rfl rfl ?_
            refine gm_aload_n hG 0 d_l_law_299 rfl rfl ?_
            refine gm_iload_n hG 3 d_l_law_300 rfl rfl ?_
            refine gm_iconst hG d_l_law_301 ?_
            refine gm_iadd hG d_l_law_302 ?_
            obtain ⟨g26, h⟩ := gmG_of h
            refine gm_sld hG hX g26 d_l_law_303 ?_
            refine gm_aload_n hG 0 d_l_law_304 rfl rfl ?_
            refine gm_iload_n hG 3 d_l_law_305 rfl rfl ?_
            refine gm_iconst hG d_l_law_306 ?_
            refine gm_iadd hG d_l_law_307 ?_
            obtain ⟨g27, h⟩ := gmG_of h
            refine gm_sld hG hX g27 d_l_law_308 ?_
            obtain ⟨r29, s28, es28, h⟩ := gmB_of h
            refine gm_callVi hG [.inl (xs ((y3 + 1)).toNat), .inl (xs ((y3 + 2)).toNat)] [] gmM_L_23 (Wx_pieceWidth (hxs ((y3 + 1)).toNat) (hxs ((y3 + 2)).toNat) es28) gmKc_0 rfl (by decide) (Nat.le_of_ble_eq_true rfl) rfl d_l_law_309 (fun qr29 => ?_)
            refine gm_ok (fun hOs28 => ?_)
            refine gm_aload_n hG 2 d_l_law_312 rfl rfl ?_
            refine gm_aload_n hG 0 d_l_law_313 rfl rfl ?_
            refine gm_iload_n hG 3 d_l_law_314 rfl rfl ?_
            refine gm_iconst hG d_l_law_315 ?_
            refine gm_iadd hG d_l_law_316 ?_
            refine gm_sld hG hX g26 d_l_law_317 ?_
            refine gm_aload_n hG 0 d_l_law_318 rfl rfl ?_
            refine gm_iload_n hG 3 d_l_law_319 rfl rfl ?_
            refine gm_iconst hG d_l_law_320 ?_
            refine gm_iadd hG d_l_law_321 ?_
            refine gm_sld hG hX g27 d_l_law_322 ?_
            obtain ⟨r31, s30, es30, h⟩ := gmB_of h
            refine gm_callVi hG [.inl (xs ((y3 + 1)).toNat), .inl (xs ((y3 + 2)).toNat)] [.inl r29] gmM_L_27 (Wm_pieceWidth (hxs ((y3 + 1)).toNat) (hxs ((y3 + 2)).toNat) es30) gmKc_133 rfl (by decide) (Nat.le_of_ble_eq_true rfl) rfl d_l_law_323 (fun qr31 => ?_)
            refine gm_ok (fun hOs30 => ?_)
            refine gm_icmp_eq (tgt := 1108) hG d_l_law_326 (by decide) qr29 qr31 (fun c32 => ?_) (fun c32 => ?_)
            · replace h := gmI_pos c32 h
              refine gm_iinc (lv' := [(3, .inl (y3 + 7)), (0, .inr 150), (1, .inr 0), (2, .inr 133)]) hG 3 d_l_law_1108 rfl (by decide) rfl ?_
              refine gm_goto (tgt := 18) hG d_l_law_1111 (by decide) ?_
              obtain ⟨g33, h⟩ := gmG_of h
              refine gm_sub [1, 2, 3, 0] rfl ?_
              exact ih g33 h hk
            · replace h := gmI_neg c32 h
              refine gm_iconst hG d_l_law_329 ?_
              exact gm_lret hF h d_l_law_330
          · replace h := gmI_neg c25 h
            by_cases c34 : ((xs (y3).toNat) % 64) = 3
            · replace h := gmI_pos c34 h
              refine gm_tswIn (tgt := 331) hG 3 c34 (by decide) rfl d_l_law_33 (by decide) ?_
              refine gm_aload_n hG 1 d_l_law_331 rfl rfl ?_
              refine gm_aload_n hG 0 d_l_law_332 rfl rfl ?_
              refine gm_iload_n hG 3 d_l_law_333 rfl rfl ?_
              refine gm_iconst hG d_l_law_334 ?_
              refine gm_iadd hG d_l_law_335 ?_
              obtain ⟨g35, h⟩ := gmG_of h
              refine gm_sld hG hX g35 d_l_law_336 ?_
              refine gm_aload_n hG 0 d_l_law_337 rfl rfl ?_
              refine gm_iload_n hG 3 d_l_law_338 rfl rfl ?_
              refine gm_iconst hG d_l_law_339 ?_
              refine gm_iadd hG d_l_law_340 ?_
              obtain ⟨g36, h⟩ := gmG_of h
              refine gm_sld hG hX g36 d_l_law_341 ?_
              obtain ⟨r38, s37, es37, h⟩ := gmB_of h
              refine gm_callVi hG [.inl (xs ((y3 + 1)).toNat), .inl (xs ((y3 + 2)).toNat)] [] gmM_L_28 (Wx_pieceLength (hxs ((y3 + 1)).toNat) (hxs ((y3 + 2)).toNat) es37) gmKc_0 rfl (by decide) (Nat.le_of_ble_eq_true rfl) rfl d_l_law_342 (fun qr38 => ?_)
              refine gm_ok (fun hOs37 => ?_)
              refine gm_aload_n hG 2 d_l_law_345 rfl rfl ?_
              refine gm_aload_n hG 0 d_l_law_346 rfl rfl ?_
              refine gm_iload_n hG 3 d_l_law_347 rfl rfl ?_
              refine gm_iconst hG d_l_law_348 ?_
              refine gm_iadd hG d_l_law_349 ?_
              refine gm_sld hG hX g35 d_l_law_350 ?_
              refine gm_aload_n hG 0 d_l_law_351 rfl rfl ?_
              refine gm_iload_n hG 3 d_l_law_352 rfl rfl ?_
              refine gm_iconst hG d_l_law_353 ?_
              refine gm_iadd hG d_l_law_354 ?_
              refine gm_sld hG hX g36 d_l_law_355 ?_
              obtain ⟨r40, s39, es39, h⟩ := gmB_of h
              refine gm_callVi hG [.inl (xs ((y3 + 1)).toNat), .inl (xs ((y3 + 2)).toNat)] [.inl r38] gmM_L_31 (Wm_pieceLength (hxs ((y3 + 1)).toNat) (hxs ((y3 + 2)).toNat) es39) gmKc_133 rfl (by decide) (Nat.le_of_ble_eq_true rfl) rfl d_l_law_356 (fun qr40 => ?_)
              refine gm_ok (fun hOs39 => ?_)
              refine gm_icmp_eq (tgt := 1108) hG d_l_law_359 (by decide) qr38 qr40 (fun c41 => ?_) (fun c41 => ?_)
              · replace h := gmI_pos c41 h
                refine gm_iinc (lv' := [(3, .inl (y3 + 7)), (0, .inr 150), (1, .inr 0), (2, .inr 133)]) hG 3 d_l_law_1108 rfl (by decide) rfl ?_
                refine gm_goto (tgt := 18) hG d_l_law_1111 (by decide) ?_
                obtain ⟨g42, h⟩ := gmG_of h
                refine gm_sub [1, 2, 3, 0] rfl ?_
                exact ih g42 h hk
              · replace h := gmI_neg c41 h
                refine gm_iconst hG d_l_law_362 ?_
                exact gm_lret hF h d_l_law_363
            · replace h := gmI_neg c34 h
              by_cases c43 : ((xs (y3).toNat) % 64) = 4
              · replace h := gmI_pos c43 h
                refine gm_tswIn (tgt := 364) hG 4 c43 (by decide) rfl d_l_law_33 (by decide) ?_
                refine gm_aload_n hG 1 d_l_law_364 rfl rfl ?_
                refine gm_aload_n hG 0 d_l_law_365 rfl rfl ?_
                refine gm_iload_n hG 3 d_l_law_366 rfl rfl ?_
                refine gm_iconst hG d_l_law_367 ?_
                refine gm_iadd hG d_l_law_368 ?_
                obtain ⟨g44, h⟩ := gmG_of h
                refine gm_sld hG hX g44 d_l_law_369 ?_
                refine gm_aload_n hG 0 d_l_law_370 rfl rfl ?_
                refine gm_iload_n hG 3 d_l_law_371 rfl rfl ?_
                refine gm_iconst hG d_l_law_372 ?_
                refine gm_iadd hG d_l_law_373 ?_
                obtain ⟨g45, h⟩ := gmG_of h
                refine gm_sld hG hX g45 d_l_law_374 ?_
                refine gm_aload_n hG 0 d_l_law_375 rfl rfl ?_
                refine gm_iload_n hG 3 d_l_law_376 rfl rfl ?_
                refine gm_iconst hG d_l_law_377 ?_
                refine gm_iadd hG d_l_law_378 ?_
                obtain ⟨g46, h⟩ := gmG_of h
                refine gm_sld hG hX g46 d_l_law_379 ?_
                refine gm_aload_n hG 0 d_l_law_380 rfl rfl ?_
                refine gm_iload_n hG 3 d_l_law_381 rfl rfl ?_
                refine gm_iconst hG d_l_law_382 ?_
                refine gm_iadd hG d_l_law_383 ?_
                obtain ⟨g47, h⟩ := gmG_of h
                refine gm_sld hG hX g47 d_l_law_384 ?_
                refine gm_aload_n hG 0 d_l_law_385 rfl rfl ?_
                refine gm_iload_n hG 3 d_l_law_386 rfl rfl ?_
                refine gm_iconst hG d_l_law_387 ?_
                refine gm_iadd hG d_l_law_388 ?_
                obtain ⟨g48, h⟩ := gmG_of h
                refine gm_sld hG hX g48 d_l_law_389 ?_
                obtain ⟨r50, s49, es49, h⟩ := gmB_of h
                refine gm_callVi hG [.inl (xs ((y3 + 1)).toNat), .inl (xs ((y3 + 2)).toNat), .inl (xs ((y3 + 3)).toNat), .inl (xs ((y3 + 4)).toNat), .inl (xs ((y3 + 5)).toNat)] [] gmM_L_32 (Wx_addSeam (hxs ((y3 + 1)).toNat) (hxs ((y3 + 2)).toNat) (hxs ((y3 + 3)).toNat) (hxs ((y3 + 4)).toNat) (hxs ((y3 + 5)).toNat) es49) gmKc_0 rfl (by decide) (Nat.le_of_ble_eq_true rfl) rfl d_l_law_390 (fun qr50 => ?_)
                refine gm_ok (fun hOs49 => ?_)
                refine gm_aload_n hG 2 d_l_law_393 rfl rfl ?_
                refine gm_aload_n hG 0 d_l_law_394 rfl rfl ?_
                refine gm_iload_n hG 3 d_l_law_395 rfl rfl ?_
                refine gm_iconst hG d_l_law_396 ?_
                refine gm_iadd hG d_l_law_397 ?_
                refine gm_sld hG hX g44 d_l_law_398 ?_
                refine gm_aload_n hG 0 d_l_law_399 rfl rfl ?_
                refine gm_iload_n hG 3 d_l_law_400 rfl rfl ?_
                refine gm_iconst hG d_l_law_401 ?_
                refine gm_iadd hG d_l_law_402 ?_
                refine gm_sld hG hX g45 d_l_law_403 ?_
                refine gm_aload_n hG 0 d_l_law_404 rfl rfl ?_
                refine gm_iload_n hG 3 d_l_law_405 rfl rfl ?_
                refine gm_iconst hG d_l_law_406 ?_
                refine gm_iadd hG d_l_law_407 ?_
                refine gm_sld hG hX g46 d_l_law_408 ?_
                refine gm_aload_n hG 0 d_l_law_409 rfl rfl ?_
                refine gm_iload_n hG 3 d_l_law_410 rfl rfl ?_
                refine gm_iconst hG d_l_law_411 ?_
                refine gm_iadd hG d_l_law_412 ?_
                refine gm_sld hG hX g47 d_l_law_413 ?_
                refine gm_aload_n hG 0 d_l_law_414 rfl rfl ?_
                refine gm_iload_n hG 3 d_l_law_415 rfl rfl ?_
                refine gm_iconst hG d_l_law_416 ?_
                refine gm_iadd hG d_l_law_417 ?_
                refine gm_sld hG hX g48 d_l_law_418 ?_
                obtain ⟨r52, s51, es51, h⟩ := gmB_of h
                refine gm_callVi hG [.inl (xs ((y3 + 1)).toNat), .inl (xs ((y3 + 2)).toNat), .inl (xs ((y3 + 3)).toNat), .inl (xs ((y3 + 4)).toNat), .inl (xs ((y3 + 5)).toNat)] [.inl r50] gmM_L_36 (Wm_addSeam (hxs ((y3 + 1)).toNat) (hxs ((y3 + 2)).toNat) (hxs ((y3 + 3)).toNat) (hxs ((y3 + 4)).toNat) (hxs ((y3 + 5)).toNat) es51) gmKc_133 rfl (by decide) (Nat.le_of_ble_eq_true rfl) rfl d_l_law_419 (fun qr52 => ?_)
                refine gm_ok (fun hOs51 => ?_)
                refine gm_icmp_eq (tgt := 1108) hG d_l_law_422 (by decide) qr50 qr52 (fun c53 => ?_) (fun c53 => ?_)
                · replace h := gmI_pos c53 h
                  refine gm_iinc (lv' := [(3, .inl (y3 + 7)), (0, .inr 150), (1, .inr 0), (2, .inr 133)]) hG 3 d_l_law_1108 rfl (by decide) rfl ?_
                  refine gm_goto (tgt := 18) hG d_l_law_1111 (by decide) ?_
                  obtain ⟨g54, h⟩ := gmG_of h
                  refine gm_sub [1, 2, 3, 0] rfl ?_
                  exact ih g54 h hk
                · replace h := gmI_neg c53 h
                  refine gm_iconst hG d_l_law_425 ?_
                  exact gm_lret hF h d_l_law_426
              · replace h := gmI_neg c43 h
                by_cases c55 : ((xs (y3).toNat) % 64) = 5
                · replace h := gmI_pos c55 h
                  refine gm_tswIn (tgt := 427) hG 5 c55 (by decide) rfl d_l_law_33 (by decide) ?_
                  refine gm_aload_n hG 1 d_l_law_427 rfl rfl ?_
                  obtain ⟨r57, s56, es56, h⟩ := gmB_of h
                  refine gm_callVi hG [] [] gmM_L_37 (Wx_seamCount es56) gmKc_0 rfl (by decide) (Nat.le_of_ble_eq_true rfl) rfl d_l_law_428 (fun qr57 => ?_)
                  refine gm_ok (fun hOs56 => ?_)
                  refine gm_aload_n hG 2 d_l_law_431 rfl rfl ?_
                  obtain ⟨r59, s58, es58, h⟩ := gmB_of h
                  refine gm_callVi hG [] [.inl r57] gmM_L_41 (Wm_seamCount es58) gmKc_133 rfl (by decide) (Nat.le_of_ble_eq_true rfl) rfl d_l_law_432 (fun qr59 => ?_)
                  refine gm_ok (fun hOs58 => ?_)
                  refine gm_icmp_eq (tgt := 1108) hG d_l_law_435 (by decide) qr57 qr59 (fun c60 => ?_) (fun c60 => ?_)
                  · replace h := gmI_pos c60 h
                    refine gm_iinc (lv' := [(3, .inl (y3 + 7)), (0, .inr 150), (1, .inr 0), (2, .inr 133)]) hG 3 d_l_law_1108 rfl (by decide) rfl ?_
                    refine gm_goto (tgt := 18) hG d_l_law_1111 (by decide) ?_
                    obtain ⟨g61, h⟩ := gmG_of h
                    refine gm_sub [1, 2, 3, 0] rfl ?_
                    exact ih g61 h hk
                  · replace h := gmI_neg c60 h
                    refine gm_iconst hG d_l_law_438 ?_
                    exact gm_lret hF h d_l_law_439
                · replace h := gmI_neg c55 h
                  by_cases c62 : ((xs (y3).toNat) % 64) = 6
                  · replace h := gmI_pos c62 h
                    refine gm_tswIn (tgt := 440) hG 6 c62 (by decide) rfl d_l_law_33 (by decide) ?_
                    refine gm_aload_n hG 1 d_l_law_440 rfl rfl ?_
                    refine gm_aload_n hG 0 d_l_law_441 rfl rfl ?_
                    refine gm_iload_n hG 3 d_l_law_442 rfl rfl ?_
                    refine gm_iconst hG d_l_law_443 ?_
                    refine gm_iadd hG d_l_law_444 ?_
                    obtain ⟨g63, h⟩ := gmG_of h
                    refine gm_sld hG hX g63 d_l_law_445 ?_
                    refine gm_aload_n hG 0 d_l_law_446 rfl rfl ?_
                    refine gm_iload_n hG 3 d_l_law_447 rfl rfl ?_
                    refine gm_iconst hG d_l_law_448 ?_
                    refine gm_iadd hG d_l_law_449 ?_
                    obtain ⟨g64, h⟩ := gmG_of h
                    refine gm_sld hG hX g64 d_l_law_450 ?_
                    obtain ⟨r66, s65, es65, h⟩ := gmB_of h
                    refine gm_callVi hG [.inl (xs ((y3 + 1)).toNat), .inl (xs ((y3 + 2)).toNat)] [] gmM_L_42 (Wx_seamDifference (hxs ((y3 + 1)).toNat) (hxs ((y3 + 2)).toNat) es65) gmKc_0 rfl (by decide) (Nat.le_of_ble_eq_true rfl) rfl d_l_law_451 (fun qr66 => ?_)
                    refine gm_ok (fun hOs65 => ?_)
                    refine gm_aload_n hG 2 d_l_law_454 rfl rfl ?_
                    refine gm_aload_n hG 0 d_l_law_455 rfl rfl ?_
                    refine gm_iload_n hG 3 d_l_law_456 rfl rfl ?_
                    refine gm_iconst hG d_l_law_457 ?_
                    refine gm_iadd hG d_l_law_458 ?_
                    refine gm_sld hG hX g63 d_l_law_459 ?_
                    refine gm_aload_n hG 0 d_l_law_460 rfl rfl ?_
                    refine gm_iload_n hG 3 d_l_law_461 rfl rfl ?_
                    refine gm_iconst hG d_l_law_462 ?_
                    refine gm_iadd hG d_l_law_463 ?_
                    refine gm_sld hG hX g64 d_l_law_464 ?_
                    obtain ⟨r68, s67, es67, h⟩ := gmB_of h
                    refine gm_callVi hG [.inl (xs ((y3 + 1)).toNat), .inl (xs ((y3 + 2)).toNat)] [.inl r66] gmM_L_45 (Wm_seamDifference (hxs ((y3 + 1)).toNat) (hxs ((y3 + 2)).toNat) es67) gmKc_133 rfl (by decide) (Nat.le_of_ble_eq_true rfl) rfl d_l_law_465 (fun qr68 => ?_)
                    refine gm_ok (fun hOs67 => ?_)
                    refine gm_icmp_eq (tgt := 1108) hG d_l_law_468 (by decide) qr66 qr68 (fun c69 => ?_) (fun c69 => ?_)
                    · replace h := gmI_pos c69 h
                      refine gm_iinc (lv' := [(3, .inl (y3 + 7)), (0, .inr 150), (1, .inr 0), (2, .inr 133)]) hG 3 d_l_law_1108 rfl (by decide) rfl ?_
                      refine gm_goto (tgt := 18) hG d_l_law_1111 (by decide) ?_
                      obtain ⟨g70, h⟩ := gmG_of h
                      refine gm_sub [1, 2, 3, 0] rfl ?_
                      exact ih g70 h hk
                    · replace h := gmI_neg c69 h
                      refine gm_iconst hG d_l_law_471 ?_
                      exact gm_lret hF h d_l_law_472
                  · replace h := gmI_neg c62 h
                    by_cases c71 : ((xs (y3).toNat) % 64) = 7
                    · replace h := gmI_pos c71 h
                      refine gm_tswIn (tgt := 473) hG 7 c71 (by decide) rfl d_l_law_33 (by decide) ?_
                      refine gm_aload_n hG 1 d_l_law_473 rfl rfl ?_
                      obtain ⟨r73, s72, es72, h⟩ := gmB_of h
                      refine gm_callVi hG [] [] gmM_L_46 (Wx_matchingSeams es72) gmKc_0 rfl (by decide) (Nat.le_of_ble_eq_true rfl) rfl d_l_law_474 (fun qr73 => ?_)
                      refine gm_ok (fun hOs72 => ?_)
                      refine gm_aload_n hG 2 d_l_law_477 rfl rfl ?_
                      obtain ⟨r75, s74, es74, h⟩ := gmB_of h
                      refine gm_callVi hG [] [.inl r73] gmM_L_49 (Wm_matchingSeams es74) gmKc_133 rfl (by decide) (Nat.le_of_ble_eq_true rfl) rfl d_l_law_478 (fun qr75 => ?_)
                      refine gm_ok (fun hOs74 => ?_)
                      refine gm_icmp_eq (tgt := 1108) hG d_l_law_481 (by decide) qr73 qr75 (fun c76 => ?_) (fun c76 => ?_)
                      · replace h := gmI_pos c76 h
                        refine gm_iinc (lv' := [(3, .inl (y3 + 7)), (0, .inr 150), (1, .inr 0), (2, .inr 133)]) hG 3 d_l_law_1108 rfl (by decide) rfl ?_
                        refine gm_goto (tgt := 18) hG d_l_law_1111 (by decide) ?_
                        obtain ⟨g77, h⟩ := gmG_of h
                        refine gm_sub [1, 2, 3, 0] rfl ?_
                        exact ih g77 h hk
                      · replace h := gmI_neg c76 h
                        refine gm_iconst hG d_l_law_484 ?_
                        exact gm_lret hF h d_l_law_485
                    · replace h := gmI_neg c71 h
                      by_cases c78 : ((xs (y3).toNat) % 64) = 8
                      · replace h := gmI_pos c78 h
                        refine gm_tswIn (tgt := 486) hG 8 c78 (by decide) rfl d_l_law_33 (by decide) ?_
                        refine gm_aload_n hG 1 d_l_law_486 rfl rfl ?_
                        obtain ⟨r80, s79, es79, h⟩ := gmB_of h
                        refine gm_callVi hG [] [] gmM_L_50 (Wx_firstMismatch es79) gmKc_0 rfl (by decide) (Nat.le_of_ble_eq_true rfl) rfl d_l_law_487 (fun qr80 => ?_)
                        refine gm_ok (fun hOs79 => ?_)
                        refine gm_aload_n hG 2 d_l_law_490 rfl rfl ?_
                        obtain ⟨r82, s81, es81, h⟩ := gmB_of h
                        refine gm_callVi hG [] [.inl r80] gmM_L_53 (Wm_firstMismatch es81) gmKc_133 rfl (by decide) (Nat.le_of_ble_eq_true rfl) rfl d_l_law_491 (fun qr82 => ?_)
                        refine gm_ok (fun hOs81 => ?_)
                        refine gm_icmp_eq (tgt := 1108) hG d_l_law_494 (by decide) qr80 qr82 (fun c83 => ?_) (fun c83 => ?_)
                        · replace h := gmI_pos c83 h
                          refine gm_iinc (lv' := [(3, .inl (y3 + 7)), (0, .inr 150), (1, .inr 0), (2, .inr 133)]) hG 3 d_l_law_1108 rfl (by decide) rfl ?_
                          refine gm_goto (tgt := 18) hG d_l_law_1111 (by decide) ?_
                          obtain ⟨g84, h⟩ := gmG_of h
                          refine gm_sub [1, 2, 3, 0] rfl ?_
                          exact ih g84 h hk
                        · replace h := gmI_neg c83 h
                          refine gm_iconst hG d_l_law_497 ?_
                          exact gm_lret hF h d_l_law_498
                      · replace h := gmI_neg c78 h
                        by_cases c85 : ((xs (y3).toNat) % 64) = 9
                        · replace h := gmI_pos c85 h
                          refine gm_tswIn (tgt := 499) hG 9 c85 (by decide) rfl d_l_law_33 (by decide) ?_
                          refine gm_aload_n hG 1 d_l_law_499 rfl rfl ?_
                          refine gm_aload_n hG 0 d_l_law_500 rfl rfl ?_
                          refine gm_iload_n hG 3 d_l_law_501 rfl rfl ?_
                          refine gm_iconst hG d_l_law_502 ?_
                          refine gm_iadd hG d_l_law_503 ?_
                          obtain ⟨g86, h⟩ := gmG_of h
                          refine gm_sld hG hX g86 d_l_law_504 ?_
                          refine gm_aload_n hG 0 d_l_law_505 rfl rfl ?_
                          refine gm_iload_n hG 3 d_l_law_506 rfl rfl ?_
                          refine gm_iconst hG d_l_law_507 ?_
                          refine gm_iadd hG d_l_law_508 ?_
                          obtain ⟨g87, h⟩ := gmG_of h
                          refine gm_sld hG hX g87 d_l_law_509 ?_
                          obtain ⟨r89, s88, es88, h⟩ := gmB_of h
                          refine gm_callVi hG [.inl (xs ((y3 + 1)).toNat), .inl (xs ((y3 + 2)).toNat)] [] gmM_L_54 (Wx_setRatio (hxs ((y3 + 1)).toNat) (hxs ((y3 + 2)).toNat) es88) gmKc_0 rfl (by decide) (Nat.le_of_ble_eq_true rfl) rfl d_l_law_510 (fun qr89 => ?_)
                          refine gm_ok (fun hOs88 => ?_)
                          refine gm_aload_n hG 2 d_l_law_513 rfl rfl ?_
                          refine gm_aload_n hG 0 d_l_law_514 rfl rfl ?_
                          refine gm_iload_n hG 3 d_l_law_515 rfl rfl ?_
                          refine gm_iconst hG d_l_law_516 ?_
                          refine gm_iadd hG d_l_law_517 ?_
                          refine gm_sld hG hX g86 d_l_law_518 ?_
                          refine gm_aload_n hG 0 d_l_law_519 rfl rfl ?_
                          refine gm_iload_n hG 3 d_l_law_520 rfl rfl ?_
                          refine gm_iconst hG d_l_law_521 ?_
                          refine gm_iadd hG d_l_law_522 ?_
                          refine gm_sld hG hX g87 d_l_law_523 ?_
                          obtain ⟨r91, s90, es90, h⟩ := gmB_of h
                          refine gm_callVi hG [.inl (xs ((y3 + 1)).toNat), .inl (xs ((y3 + 2)).toNat)] [.inl r89] gmM_L_57 (Wm_setRatio (hxs ((y3 + 1)).toNat) (hxs ((y3 + 2)).toNat) es90) gmKc_133 rfl (by decide) (Nat.le_of_ble_eq_true rfl) rfl d_l_law_524 (fun qr91 => ?_)
                          refine gm_ok (fun hOs90 => ?_)
                          refine gm_icmp_eq (tgt := 1108) hG d_l_law_527 (by decide) qr89 qr91 (fun c92 => ?_) (fun c92 => ?_)
                          · replace h := gmI_pos c92 h
                            refine gm_iinc (lv' := [(3, .inl (y3 + 7)), (0, .inr 150), (1, .inr 0), (2, .inr 133)]) hG 3 d_l_law_1108 rfl (by decide) rfl ?_
                            refine gm_goto (tgt := 18) hG d_l_law_1111 (by decide) ?_
                            obtain ⟨g93, h⟩ := gmG_of h
                            refine gm_sub [1, 2, 3, 0] rfl ?_
                            exact ih g93 h hk
                          · replace h := gmI_neg c92 h
                            refine gm_iconst hG d_l_law_530 ?_
                            exact gm_lret hF h d_l_law_531
                        · replace h := gmI_neg c85 h
                          by_cases c94 : ((xs (y3).toNat) % 64) = 10
                          · replace h := gmI_pos c94 h
                            refine gm_tswIn (tgt := 532) hG 10 c94 (by decide) rfl d_l_law_33 (by decide) ?_
                            refine gm_aload_n hG 1 d_l_law_532 rfl rfl ?_
                            refine gm_aload_n hG 0 d_l_law_533 rfl rfl ?_
                            refine gm_iload_n hG 3 d_l_law_534 rfl rfl ?_
                            refine gm_iconst hG d_l_law_535 ?_
                            refine gm_iadd hG d_l_law_536 ?_
                            obtain ⟨g95, h⟩ := gmG_of h
                            refine gm_sld hG hX g95 d_l_law_537 ?_
                            obtain ⟨r97, s96, es96, h⟩ := gmB_of h
                            refine gm_callVi hG [.inl (xs ((y3 + 1)).toNat)] [] gmM_L_58 (Wx_ratio (hxs ((y3 + 1)).toNat) es96) gmKc_0 rfl (by decide) (Nat.le_of_ble_eq_true rfl) rfl d_l_law_538 (fun qr97 => ?_)
                            refine gm_ok (fun hOs96 => ?_)
                            refine gm_aload_n hG 2 d_l_law_541 rfl rfl ?_
                            refine gm_aload_n hG 0 d_l_law_542 rfl rfl ?_
                            refine gm_iload_n hG 3 d_l_law_543 rfl rfl ?_
                            refine gm_iconst hG d_l_law_544 ?_
                            refine gm_iadd hG d_l_law_545 ?_
                            refine gm_sld hG hX g95 d_l_law_546 ?_
                            obtain ⟨r99, s98, es98, h⟩ := gmB_of h
                            refine gm_callVi hG [.inl (xs ((y3 + 1)).toNat)] [.inl r97] gmM_L_61 (Wm_ratio (hxs ((y3 + 1)).toNat) es98) gmKc_133 rfl (by decide) (Nat.le_of_ble_eq_true rfl) rfl d_l_law_547 (fun qr99 => ?_)
                            refine gm_ok (fun hOs98 => ?_)
                            refine gm_icmp_eq (tgt := 1108) hG d_l_law_550 (by decide) qr97 qr99 (fun c100 => ?_) (fun c100 => ?_)
                            · replace h := gmI_pos c100 h
                              refine gm_iinc (lv' := [(3, .inl (y3 + 7)), (0, .inr 150), (1, .inr 0), (2, .inr 133)]) hG 3 d_l_law_1108 rfl (by decide) rfl ?_
                              refine gm_goto (tgt := 18) hG d_l_law_1111 (by decide) ?_
                              obtain ⟨g101, h⟩ := gmG_of h
                              refine gm_sub [1, 2, 3, 0] rfl ?_
                              exact ih g101 h hk
                            · replace h := gmI_neg c100 h
                              refine gm_iconst hG d_l_law_553 ?_
                              exact gm_lret hF h d_l_law_554
                          · replace h := gmI_neg c94 h
                            by_cases c102 : ((xs (y3).toNat) % 64) = 11
                            · replace h := gmI_pos c102 h
                              refine gm_tswIn (tgt := 555) hG 11 c102 (by decide) rfl d_l_law_33 (by decide) ?_
                              refine gm_aload_n hG 1 d_l_law_555 rfl rfl ?_
                              refine gm_aload_n hG 0 d_l_law_556 rfl rfl ?_
                              refine gm_iload_n hG 3 d_l_law_557 rfl rfl ?_
                              refine gm_iconst hG d_l_law_558 ?_
                              refine gm_iadd hG d_l_law_559 ?_
                              obtain ⟨g103, h⟩ := gmG_of h
                              refine gm_sld hG hX g103 d_l_law_560 ?_
                              obtain ⟨r105, s104, es104, h⟩ := gmB_of h
                              refine gm_callVi hG [.inl (xs ((y3 + 1)).toNat)] [] gmM_L_62 (Wx_setClothWidth (hxs ((y3 + 1)).toNat) es104) gmKc_0 rfl (by decide) (Nat.le_of_ble_eq_true rfl) rfl d_l_law_561 (fun qr105 => ?_)
                              refine gm_ok (fun hOs104 => ?_)
                              refine gm_aload_n hG 2 d_l_law_564 rfl rfl ?_
                              refine gm_aload_n hG 0 d_l_law_565 rfl rfl ?_
                              refine gm_iload_n hG 3 d_l_law_566 rfl rfl ?_
                              refine gm_iconst hG d_l_law_567 ?_
                              refine gm_iadd hG d_l_law_568 ?_
                              refine gm_sld hG hX g103 d_l_law_569 ?_
                              obtain ⟨r107, s106, es106, h⟩ := gmB_of h
                              refine gm_callVi hG [.inl (xs ((y3 + 1)).toNat)] [.inl r105] gmM_L_65 (Wm_setClothWidth (hxs ((y3 + 1)).toNat) es106) gmKc_133 rfl (by decide) (Nat.le_of_ble_eq_true rfl) rfl d_l_law_570 (fun qr107 => ?_)
                              refine gm_ok (fun hOs106 => ?_)
                              refine gm_icmp_eq (tgt := 1108) hG d_l_law_573 (by decide) qr105 qr107 (fun c108 => ?_) (fun c108 => ?_)
                              · replace h := gmI_pos c108 h
                                refine gm_iinc (lv' := [(3, .inl (y3 + 7)), (0, .inr 150), (1, .inr 0), (2, .inr 133)]) hG 3 d_l_law_1108 rfl (by decide) rfl ?_
                                refine gm_goto (tgt := 18) hG d_l_law_1111 (by decide) ?_
                                obtain ⟨g109, h⟩ := gmG_of h
                                refine gm_sub [1, 2, 3, 0] rfl ?_
                                exact ih g109 h hk
                              · replace h := gmI_neg c108 h
                                refine gm_iconst hG d_l_law_576 ?_
                                exact gm_lret hF h d_l_law_577
                            · replace h := gmI_neg c102 h
                              by_cases c110 : ((xs (y3).toNat) % 64) = 12
                              · replace h := gmI_pos c110 h
                                refine gm_tswIn (tgt := 578) hG 12 c110 (by decide) rfl d_l_law_33 (by decide) ?_
                                refine gm_aload_n hG 1 d_l_law_578 rfl rfl ?_
                                refine gm_aload_n hG 0 d_l_law_579 rfl rfl ?_
                                refine gm_iload_n hG 3 d_l_law_580 rfl rfl ?_
                                refine gm_iconst hG d_l_law_581 ?_
                                refine gm_iadd hG d_l_law_582 ?_
                                obtain ⟨g111, h⟩ := gmG_of h
                                refine gm_sld hG hX g111 d_l_law_583 ?_
                                suffices hj : J φ σ 592 [(0, .inr 150), (1, .inr 0), (2, .inr 133), (3, .inl y3)] [.inl (if (xs ((y3 + 1)).toNat) = 0 then 0 else 1), .inr 0] by
                                  refine gm_if_eq (tgt := 591) hG d_l_law_584 (by decide) (hxs ((y3 + 1)).toNat) (fun c112 => ?_) (fun c112 => ?_)
                                  · replace hj := gmJ_pos c112 hj
                                    refine gm_iconst hG d_l_law_591 ?_
                                    exact hj
                                  · replace hj := gmJ_neg c112 hj
                                    refine gm_iconst hG d_l_law_587 ?_
                                    refine gm_goto (tgt := 592) hG d_l_law_588 (by decide) ?_
                                    exact hj
                                obtain ⟨r114, s113, es113, h⟩ := gmB_of h
                                refine gm_callVi hG [.inl (if (xs ((y3 + 1)).toNat) = 0 then 0 else 1)] [] gmM_L_66 (Wx_setFolded (gmR_ite (fun c112 => (by decide)) (fun c112 => (by decide))) es113) gmKc_0 rfl (by decide) (Nat.le_of_ble_eq_true rfl) rfl d_l_law_592 (fun qr114 => ?_)
                                refine gm_ok (fun hOs113 => ?_)
                                refine gm_aload_n hG 2 d_l_law_595 rfl rfl ?_
                                refine gm_aload_n hG 0 d_l_law_596 rfl rfl ?_
                                refine gm_iload_n hG 3 d_l_law_597 rfl rfl ?_
                                refine gm_iconst hG d_l_law_598 ?_
                                refine gm_iadd hG d_l_law_599 ?_
                                refine gm_sld hG hX g111 d_l_law_600 ?_
                                suffices hj : J φ s113 609 [(0, .inr 150), (1, .inr 0), (2, .inr 133), (3, .inl y3)] [.inl (if (xs ((y3 + 1)).toNat) = 0 then 0 else 1), .inr 133, .inl r114] by
                                  refine gm_if_eq (tgt := 608) hG d_l_law_601 (by decide) (hxs ((y3 + 1)).toNat) (fun c115 => ?_) (fun c115 => ?_)
                                  · replace hj := gmJ_pos c115 hj
                                    refine gm_iconst hG d_l_law_608 ?_
                                    exact hj
                                  · replace hj := gmJ_neg c115 hj
                                    refine gm_iconst hG d_l_law_604 ?_
                                    refine gm_goto (tgt := 609) hG d_l_law_605 (by decide) ?_
                                    exact hj
                                obtain ⟨r117, s116, es116, h⟩ := gmB_of h
                                refine gm_callVi hG [.inl (if (xs ((y3 + 1)).toNat) = 0 then 0 else 1)] [.inl r114] gmM_L_70 (Wm_setFolded (gmR_ite (fun c115 => (by decide)) (fun c115 => (by decide))) es116) gmKc_133 rfl (by decide) (Nat.le_of_ble_eq_true rfl) rfl d_l_law_609 (fun qr117 => ?_)
                                refine gm_ok (fun hOs116 => ?_)
                                refine gm_icmp_eq (tgt := 1108) hG d_l_law_612 (by decide) qr114 qr117 (fun c118 => ?_) (fun c118 => ?_)
                                · replace h := gmI_pos c118 h
                                  refine gm_iinc (lv' := [(3, .inl (y3 + 7)), (0, .inr 150), (1, .inr 0), (2, .inr 133)]) hG 3 d_l_law_1108 rfl (by decide) rfl ?_
                                  refine gm_goto (tgt := 18) hG d_l_law_1111 (by decide) ?_
                                  obtain ⟨g119, h⟩ := gmG_of h
                                  refine gm_sub [1, 2, 3, 0] rfl ?_
                                  exact ih g119 h hk
                                · replace h := gmI_neg c118 h
                                  refine gm_iconst hG d_l_law_615 ?_
                                  exact gm_lret hF h d_l_law_616
                              · replace h := gmI_neg c110 h
                                by_cases c120 : ((xs (y3).toNat) % 64) = 13
                                · replace h := gmI_pos c120 h
                                  refine gm_tswIn (tgt := 617) hG 13 c120 (by decide) rfl d_l_law_33 (by decide) ?_
                                  refine gm_aload_n hG 1 d_l_law_617 rfl rfl ?_
                                  refine gm_aload_n hG 0 d_l_law_618 rfl rfl ?_
                                  refine gm_iload_n hG 3 d_l_law_619 rfl rfl ?_
                                  refine gm_iconst hG d_l_law_620 ?_
                                  refine gm_iadd hG d_l_law_621 ?_
                                  obtain ⟨g121, h⟩ := gmG_of h
                                  refine gm_sld hG hX g121 d_l_law_622 ?_
                                  suffices hj : J φ σ 631 [(0, .inr 150), (1, .inr 0), (2, .inr 133), (3, .inl y3)] [.inl (if (xs ((y3 + 1)).toNat) = 0 then 0 else 1), .inr 0] by
                                    refine gm_if_eq (tgt := 630) hG d_l_law_623 (by decide) (hxs ((y3 + 1)).toNat) (fun c122 => ?_) (fun c122 => ?_)
                                    · replace hj := gmJ_pos c122 hj
                                      refine gm_iconst hG d_l_law_630 ?_
                                      exact hj
                                    · replace hj := gmJ_neg c122 hj
                                      refine gm_iconst hG d_l_law_626 ?_
                                      refine gm_goto (tgt := 631) hG d_l_law_627 (by decide) ?_
                                      exact hj
                                  obtain ⟨r124, s123, es123, h⟩ := gmB_of h
                                  refine gm_callVi hG [.inl (if (xs ((y3 + 1)).toNat) = 0 then 0 else 1)] [] gmM_L_71 (Wx_setRotation (gmR_ite (fun c122 => (by decide)) (fun c122 => (by decide))) es123) gmKc_0 rfl (by decide) (Nat.le_of_ble_eq_true rfl) rfl d_l_law_631 (fun qr124 => ?_)
                                  refine gm_ok (fun hOs123 => ?_)
                                  refine gm_aload_n hG 2 d_l_law_634 rfl rfl ?_
                                  refine gm_aload_n hG 0 d_l_law_635 rfl rfl ?_
                                  refine gm_iload_n hG 3 d_l_law_636 rfl rfl ?_
                                  refine gm_iconst hG d_l_law_637 ?_
                                  refine gm_iadd hG d_l_law_638 ?_
                                  refine gm_sld hG hX g121 d_l_law_639 ?_
                                  suffices hj : J φ s123 648 [(0, .inr 150), (1, .inr 0), (2, .inr 133), (3, .inl y3)] [.inl (if (xs ((y3 + 1)).toNat) = 0 then 0 else 1), .inr 133, .inl r124] by
                                    refine gm_if_eq (tgt := 647) hG d_l_law_640 (by decide) (hxs ((y3 + 1)).toNat) (fun c125 => ?_) (fun c125 => ?_)
                                    · replace hj := gmJ_pos c125 hj
                                      refine gm_iconst hG d_l_law_647 ?_
                                      exact hj
                                    · replace hj := gmJ_neg c125 hj
                                      refine gm_iconst hG d_l_law_643 ?_
                                      refine gm_goto (tgt := 648) hG d_l_law_644 (by decide) ?_
                                      exact hj
                                  obtain ⟨r127, s126, es126, h⟩ := gmB_of h
                                  refine gm_callVi hG [.inl (if (xs ((y3 + 1)).toNat) = 0 then 0 else 1)] [.inl r124] gmM_L_74 (Wm_setRotation (gmR_ite (fun c125 => (by decide)) (fun c125 => (by decide))) es126) gmKc_133 rfl (by decide) (Nat.le_of_ble_eq_true rfl) rfl d_l_law_648 (fun qr127 => ?_)
                                  refine gm_ok (fun hOs126 => ?_)
                                  refine gm_icmp_eq (tgt := 1108) hG d_l_law_651 (by decide) qr124 qr127 (fun c128 => ?_) (fun c128 => ?_)
                                  · replace h := gmI_pos c128 h
                                    refine gm_iinc (lv' := [(3, .inl (y3 + 7)), (0, .inr 150), (1, .inr 0), (2, .inr 133)]) hG 3 d_l_law_1108 rfl (by decide) rfl ?_
                                    refine gm_goto (tgt := 18) hG d_l_law_1111 (by decide) ?_
                                    obtain ⟨g129, h⟩ := gmG_of h
                                    refine gm_sub [1, 2, 3, 0] rfl ?_
                                    exact ih g129 h hk
                                  · replace h := gmI_neg c128 h
                                    refine gm_iconst hG d_l_law_654 ?_
                                    exact gm_lret hF h d_l_law_655
                                · replace h := gmI_neg c120 h
                                  by_cases c130 : ((xs (y3).toNat) % 64) = 14
                                  · replace h := gmI_pos c130 h
                                    refine gm_tswIn (tgt := 656) hG 14 c130 (by decide) rfl d_l_law_33 (by decide) ?_
                                    refine gm_aload_n hG 1 d_l_law_656 rfl rfl ?_
                                    refine gm_aload_n hG 0 d_l_law_657 rfl rfl ?_
                                    refine gm_iload_n hG 3 d_l_law_658 rfl rfl ?_
                                    refine gm_iconst hG d_l_law_659 ?_
                                    refine gm_iadd hG d_l_law_660 ?_
                                    obtain ⟨g131, h⟩ := gmG_of h
                                    refine gm_sld hG hX g131 d_l_law_661 ?_
                                    refine gm_aload_n hG 0 d_l_law_662 rfl rfl ?_
                                    refine gm_iload_n hG 3 d_l_law_663 rfl rfl ?_
                                    refine gm_iconst hG d_l_law_664 ?_
                                    refine gm_iadd hG d_l_law_665 ?_
                                    obtain ⟨g132, h⟩ := gmG_of h
                                    refine gm_sld hG hX g132 d_l_law_666 ?_
                                    obtain ⟨r134, s133, es133, h⟩ := gmB_of h
                                    refine gm_callVi hG [.inl (xs ((y3 + 1)).toNat), .inl (xs ((y3 + 2)).toNat)] [] gmM_L_75 (Wx_setPacking (hxs ((y3 + 1)).toNat) (hxs ((y3 + 2)).toNat) es133) gmKc_0 rfl (by decide) (Nat.le_of_ble_eq_true rfl) rfl d_l_law_667 (fun qr134 => ?_)
                                    refine gm_ok (fun hOs133 => ?_)
                                    refine gm_aload_n hG 2 d_l_law_670 rfl rfl ?_
                                    refine gm_aload_n hG 0 d_l_law_671 rfl rfl ?_
                                    refine gm_iload_n hG 3 d_l_law_672 rfl rfl ?_
                                    refine gm_iconst hG d_l_law_673 ?_
                                    refine gm_iadd hG d_l_law_674 ?_
                                    refine gm_sld hG hX g131 d_l_law_675 ?_
                                    refine gm_aload_n hG 0 d_l_law_676 rfl rfl ?_
                                    refine gm_iload_n hG 3 d_l_law_677 rfl rfl ?_
                                    refine gm_iconst hG d_l_law_678 ?_
                                    refine gm_iadd hG d_l_law_679 ?_
                                    refine gm_sld hG hX g132 d_l_law_680 ?_
                                    obtain ⟨r136, s135, es135, h⟩ := gmB_of h
                                    refine gm_callVi hG [.inl (xs ((y3 + 1)).toNat), .inl (xs ((y3 + 2)).toNat)] [.inl r134] gmM_L_78 (Wm_setPacking (hxs ((y3 + 1)).toNat) (hxs ((y3 + 2)).toNat) es135) gmKc_133 rfl (by decide) (Nat.le_of_ble_eq_true rfl) rfl d_l_law_681 (fun qr136 => ?_)
                                    refine gm_ok (fun hOs135 => ?_)
                                    refine gm_icmp_eq (tgt := 1108) hG d_l_law_684 (by decide) qr134 qr136 (fun c137 => ?_) (fun c137 => ?_)
                                    · replace h := gmI_pos c137 h
                                      refine gm_iinc (lv' := [(3, .inl (y3 + 7)), (0, .inr 150), (1, .inr 0), (2, .inr 133)]) hG 3 d_l_law_1108 rfl (by decide) rfl ?_
                                      refine gm_goto (tgt := 18) hG d_l_law_1111 (by decide) ?_
                                      obtain ⟨g138, h⟩ := gmG_of h
                                      refine gm_sub [1, 2, 3, 0] rfl ?_
                                      exact ih g138 h hk
                                    · replace h := gmI_neg c137 h
                                      refine gm_iconst hG d_l_law_687 ?_
                                      exact gm_lret hF h d_l_law_688
                                  · replace h := gmI_neg c130 h
                                    by_cases c139 : ((xs (y3).toNat) % 64) = 15
                                    · replace h := gmI_pos c139 h
                                      refine gm_tswIn (tgt := 689) hG 15 c139 (by decide) rfl d_l_law_33 (by decide) ?_
                                      refine gm_aload_n hG 1 d_l_law_689 rfl rfl ?_
                                      obtain ⟨r141, s140, es140, h⟩ := gmB_of h
                                      refine gm_callVi hG [] [] gmM_L_79 (Wx_partCount es140) gmKc_0 rfl (by decide) (Nat.le_of_ble_eq_true rfl) rfl d_l_law_690 (fun qr141 => ?_)
                                      refine gm_ok (fun hOs140 => ?_)
                                      refine gm_aload_n hG 2 d_l_law_693 rfl rfl ?_
                                      obtain ⟨r143, s142, es142, h⟩ := gmB_of h
                                      refine gm_callVi hG [] [.inl r141] gmM_L_82 (Wm_partCount es142) gmKc_133 rfl (by decide) (Nat.le_of_ble_eq_true rfl) rfl d_l_law_694 (fun qr143 => ?_)
                                      refine gm_ok (fun hOs142 => ?_)
                                      refine gm_icmp_eq (tgt := 1108) hG d_l_law_697 (by decide) qr141 qr143 (fun c144 => ?_) (fun c144 => ?_)
                                      · replace h := gmI_pos c144 h
                                        refine gm_iinc (lv' := [(3, .inl (y3 + 7)), (0, .inr 150), (1, .inr 0), (2, .inr 133)]) hG 3 d_l_law_1108 rfl (by decide) rfl ?_
                                        refine gm_goto (tgt := 18) hG d_l_law_1111 (by decide) ?_
                                        obtain ⟨g145, h⟩ := gmG_of h
                                        refine gm_sub [1, 2, 3, 0] rfl ?_
                                        exact ih g145 h hk
                                      · replace h := gmI_neg c144 h
                                        refine gm_iconst hG d_l_law_700 ?_
                                        exact gm_lret hF h d_l_law_701
                                    · replace h := gmI_neg c139 h
                                      by_cases c146 : ((xs (y3).toNat) % 64) = 16
                                      · replace h := gmI_pos c146 h
                                        refine gm_tswIn (tgt := 702) hG 16 c146 (by decide) rfl d_l_law_33 (by decide) ?_
                                        refine gm_aload_n hG 1 d_l_law_702 rfl rfl ?_
                                        obtain ⟨r148, s147, es147, h⟩ := gmB_of h
                                        refine gm_callVi hG [] [] gmM_L_83 (Wx_foldPartCount es147) gmKc_0 rfl (by decide) (Nat.le_of_ble_eq_true rfl) rfl d_l_law_703 (fun qr148 => ?_)
                                        refine gm_ok (fun hOs147 => ?_)
                                        refine gm_aload_n hG 2 d_l_law_706 rfl rfl ?_
                                        obtain ⟨r150, s149, es149, h⟩ := gmB_of h
                                        refine gm_callVi hG [] [.inl r148] gmM_L_86 (Wm_foldPartCount es149) gmKc_133 rfl (by decide) (Nat.le_of_ble_eq_true rfl) rfl d_l_law_707 (fun qr150 => ?_)
                                        refine gm_ok (fun hOs149 => ?_)
                                        refine gm_icmp_eq (tgt := 1108) hG d_l_law_710 (by decide) qr148 qr150 (fun c151 => ?_) (fun c151 => ?_)
                                        · replace h := gmI_pos c151 h
                                          refine gm_iinc (lv' := [(3, .inl (y3 + 7)), (0, .inr 150), (1, .inr 0), (2, .inr 133)]) hG 3 d_l_law_1108 rfl (by decide) rfl ?_
                                          refine gm_goto (tgt := 18) hG d_l_law_1111 (by decide) ?_
                                          obtain ⟨g152, h⟩ := gmG_of h
                                          refine gm_sub [1, 2, 3, 0] rfl ?_
                                          exact ih g152 h hk
                                        · replace h := gmI_neg c151 h
                                          refine gm_iconst hG d_l_law_713 ?_
                                          exact gm_lret hF h d_l_law_714
                                      · replace h := gmI_neg c146 h
                                        by_cases c153 : ((xs (y3).toNat) % 64) = 17
                                        · replace h := gmI_pos c153 h
                                          refine gm_tswIn (tgt := 715) hG 17 c153 (by decide) rfl d_l_law_33 (by decide) ?_
                                          refine gm_aload_n hG 1 d_l_law_715 rfl rfl ?_
                                          refine gm_aload_n hG 0 d_l_law_716 rfl rfl ?_
                                          refine gm_iload_n hG 3 d_l_law_717 rfl rfl ?_
                                          refine gm_iconst hG d_l_law_718 ?_
                                          refine gm_iadd hG d_l_law_719 ?_
                                          obtain ⟨g154, h⟩ := gmG_of h
                                          refine gm_sld hG hX g154 d_l_law_720 ?_
                                          obtain ⟨r156, s155, es155, h⟩ := gmB_of h
                                          refine gm_callVi hG [.inl (xs ((y3 + 1)).toNat)] [] gmM_L_87 (Wx_partSize (hxs ((y3 + 1)).toNat) es155) gmKc_0 rfl (by decide) (Nat.le_of_ble_eq_true rfl) rfl d_l_law_721 (fun qr156 => ?_)
                                          refine gm_ok (fun hOs155 => ?_)
                                          refine gm_aload_n hG 2 d_l_law_724 rfl rfl ?_
                                          refine gm_aload_n hG 0 d_l_law_725 rfl rfl ?_
                                          refine gm_iload_n hG 3 d_l_law_726 rfl rfl ?_
                                          refine gm_iconst hG d_l_law_727 ?_
                                          refine gm_iadd hG d_l_law_728 ?_
                                          refine gm_sld hG hX g154 d_l_law_729 ?_
                                          obtain ⟨r158, s157, es157, h⟩ := gmB_of h
                                          refine gm_callVi hG [.inl (xs ((y3 + 1)).toNat)] [.inl r156] gmM_L_90 (Wm_partSize (hxs ((y3 + 1)).toNat) es157) gmKc_133 rfl (by decide) (Nat.le_of_ble_eq_true rfl) rfl d_l_law_730 (fun qr158 => ?_)
                                          refine gm_ok (fun hOs157 => ?_)
                                          refine gm_icmp_eq (tgt := 1108) hG d_l_law_733 (by decide) qr156 qr158 (fun c159 => ?_) (fun c159 => ?_)
                                          · replace h := gmI_pos c159 h
                                            refine gm_iinc (lv' := [(3, .inl (y3 + 7)), (0, .inr 150), (1, .inr 0), (2, .inr 133)]) hG 3 d_l_law_1108 rfl (by decide) rfl ?_
                                            refine gm_goto (tgt := 18) hG d_l_law_1111 (by decide) ?_
                                            obtain ⟨g160, h⟩ := gmG_of h
                                            refine gm_sub [1, 2, 3, 0] rfl ?_
                                            exact ih g160 h hk
                                          · replace h := gmI_neg c159 h
                                            refine gm_iconst hG d_l_law_736 ?_
                                            exact gm_lret hF h d_l_law_737
                                        · replace h := gmI_neg c153 h
                                          by_cases c161 : ((xs (y3).toNat) % 64) = 18
                                          · replace h := gmI_pos c161 h
                                            refine gm_tswIn (tgt := 738) hG 18 c161 (by decide) rfl d_l_law_33 (by decide) ?_
                                            refine gm_aload_n hG 1 d_l_law_738 rfl rfl ?_
                                            refine gm_aload_n hG 0 d_l_law_739 rfl rfl ?_
                                            refine gm_iload_n hG 3 d_l_law_740 rfl rfl ?_
                                            refine gm_iconst hG d_l_law_741 ?_
                                            refine gm_iadd hG d_l_law_742 ?_
                                            obtain ⟨g162, h⟩ := gmG_of h
                                            refine gm_sld hG hX g162 d_l_law_743 ?_
                                            obtain ⟨r164, s163, es163, h⟩ := gmB_of h
                                            refine gm_callVi hG [.inl (xs ((y3 + 1)).toNat)] [] gmM_L_91 (Wx_partPiece (hxs ((y3 + 1)).toNat) es163) gmKc_0 rfl (by decide) (Nat.le_of_ble_eq_true rfl) rfl d_l_law_744 (fun qr164 => ?_)
                                            refine gm_ok (fun hOs163 => ?_)
                                            refine gm_aload_n hG 2 d_l_law_747 rfl rfl ?_
                                            refine gm_aload_n hG 0 d_l_law_748 rfl rfl ?_
                                            refine gm_iload_n hG 3 d_l_law_749 rfl rfl ?_
                                            refine gm_iconst hG d_l_law_750 ?_
                                            refine gm_iadd hG d_l_law_751 ?_
                                            refine gm_sld hG hX g162 d_l_law_752 ?_
                                            obtain ⟨r166, s165, es165, h⟩ := gmB_of h
                                            refine gm_callVi hG [.inl (xs ((y3 + 1)).toNat)] [.inl r164] gmM_L_94 (Wm_partPiece (hxs ((y3 + 1)).toNat) es165) gmKc_133 rfl (by decide) (Nat.le_of_ble_eq_true rfl) rfl d_l_law_753 (fun qr166 => ?_)
                                            refine gm_ok (fun hOs165 => ?_)
                                            refine gm_icmp_eq (tgt := 1108) hG d_l_law_756 (by decide) qr164 qr166 (fun c167 => ?_) (fun c167 => ?_)
                                            · replace h := gmI_pos c167 h
                                              refine gm_iinc (lv' := [(3, .inl (y3 + 7)), (0, .inr 150), (1, .inr 0), (2, .inr 133)]) hG 3 d_l_law_1108 rfl (by decide) rfl ?_
                                              refine gm_goto (tgt := 18) hG d_l_law_1111 (by decide) ?_
                                              obtain ⟨g168, h⟩ := gmG_of h
                                              refine gm_sub [1, 2, 3, 0] rfl ?_
                                              exact ih g168 h hk
                                            · replace h := gmI_neg c167 h
                                              refine gm_iconst hG d_l_law_759 ?_
                                              exact gm_lret hF h d_l_law_760
                                          · replace h := gmI_neg c161 h
                                            by_cases c169 : ((xs (y3).toNat) % 64) = 19
                                            · replace h := gmI_pos c169 h
                                              refine gm_tswIn (tgt := 761) hG 19 c169 (by decide) rfl d_l_law_33 (by decide) ?_
                                              refine gm_aload_n hG 1 d_l_law_761 rfl rfl ?_
                                              refine gm_aload_n hG 0 d_l_law_762 rfl rfl ?_
                                              refine gm_iload_n hG 3 d_l_law_763 rfl rfl ?_
                                              refine gm_iconst hG d_l_law_764 ?_
                                              refine gm_iadd hG d_l_law_765 ?_
                                              obtain ⟨g170, h⟩ := gmG_of h
                                              refine gm_sld hG hX g170 d_l_law_766 ?_
                                              obtain ⟨r172, s171, es171, h⟩ := gmB_of h
                                              refine gm_callVi hG [.inl (xs ((y3 + 1)).toNat)] [] gmM_L_95 (Wx_partAlong (hxs ((y3 + 1)).toNat) es171) gmKc_0 rfl (by decide) (Nat.le_of_ble_eq_true rfl) rfl d_l_law_767 (fun qr172 => ?_)
                                              refine gm_ok (fun hOs171 => ?_)
                                              refine gm_aload_n hG 2 d_l_law_770 rfl rfl ?_
                                              refine gm_aload_n hG 0 d_l_law_771 rfl rfl ?_
                                              refine gm_iload_n hG 3 d_l_law_772 rfl rfl ?_
                                              refine gm_iconst hG d_l_law_773 ?_
                                              refine gm_iadd hG d_l_law_774 ?_
                                              refine gm_sld hG hX g170 d_l_law_775 ?_
                                              obtain ⟨r174, s173, es173, h⟩ := gmB_of h
                                              refine gm_callVi hG [.inl (xs ((y3 + 1)).toNat)] [.inl r172] gmM_L_98 (Wm_partAlong (hxs ((y3 + 1)).toNat) es173) gmKc_133 rfl (by decide) (Nat.le_of_ble_eq_true rfl) rfl d_l_law_776 (fun qr174 => ?_)
                                              refine gm_ok (fun hOs173 => ?_)
                                              refine gm_icmp_eq (tgt := 1108) hG d_l_law_779 (by decide) qr172 qr174 (fun c175 => ?_) (fun c175 => ?_)
                                              · replace h := gmI_pos c175 h
                                                refine gm_iinc (lv' := [(3, .inl (y3 + 7)), (0, .inr 150), (1, .inr 0), (2, .inr 133)]) hG 3 d_l_law_1108 rfl (by decide) rfl ?_
                                                refine gm_goto (tgt := 18) hG d_l_law_1111 (by decide) ?_
                                                obtain ⟨g176, h⟩ := gmG_of h
                                                refine gm_sub [1, 2, 3, 0] rfl ?_
                                                exact ih g176 h hk
                                              · replace h := gmI_neg c175 h
                                                refine gm_iconst hG d_l_law_782 ?_
                                                exact gm_lret hF h d_l_law_783
                                            · replace h := gmI_neg c169 h
                                              by_cases c177 : ((xs (y3).toNat) % 64) = 20
                                              · replace h := gmI_pos c177 h
                                                refine gm_tswIn (tgt := 784) hG 20 c177 (by decide) rfl d_l_law_33 (by decide) ?_
                                                refine gm_aload_n hG 1 d_l_law_784 rfl rfl ?_
                                                refine gm_aload_n hG 0 d_l_law_785 rfl rfl ?_
                                                refine gm_iload_n hG 3 d_l_law_786 rfl rfl ?_
                                                refine gm_iconst hG d_l_law_787 ?_
                                                refine gm_iadd hG d_l_law_788 ?_
                                                obtain ⟨g178, h⟩ := gmG_of h
                                                refine gm_sld hG hX g178 d_l_law_789 ?_
                                                obtain ⟨r180, s179, es179, h⟩ := gmB_of h
                                                refine gm_callVi hG [.inl (xs ((y3 + 1)).toNat)] [] gmM_L_99 (Wx_partAcross (hxs ((y3 + 1)).toNat) es179) gmKc_0 rfl (by decide) (Nat.le_of_ble_eq_true rfl) rfl d_l_law_790 (fun qr180 => ?_)
                                                refine gm_ok (fun hOs179 => ?_)
                                                refine gm_aload_n hG 2 d_l_law_793 rfl rfl ?_
                                                refine gm_aload_n hG 0 d_l_law_794 rfl rfl ?_
                                                refine gm_iload_n hG 3 d_l_law_795 rfl rfl ?_
                                                refine gm_iconst hG d_l_law_796 ?_
                                                refine gm_iadd hG d_l_law_797 ?_
                                                refine gm_sld hG hX g178 d_l_law_798 ?_
                                                obtain ⟨r182, s181, es181, h⟩ := gmB_of h
                                                refine gm_callVi hG [.inl (xs ((y3 + 1)).toNat)] [.inl r180] gmM_L_102 (Wm_partAcross (hxs ((y3 + 1)).toNat) es181) gmKc_133 rfl (by decide) (Nat.le_of_ble_eq_true rfl) rfl d_l_law_799 (fun qr182 => ?_)
                                                refine gm_ok (fun hOs181 => ?_)
                                                refine gm_icmp_eq (tgt := 1108) hG d_l_law_802 (by decide) qr180 qr182 (fun c183 => ?_) (fun c183 => ?_)
                                                · replace h := gmI_pos c183 h
                                                  refine gm_iinc (lv' := [(3, .inl (y3 + 7)), (0, .inr 150), (1, .inr 0), (2, .inr 133)]) hG 3 d_l_law_1108 rfl (by decide) rfl ?_
                                                  refine gm_goto (tgt := 18) hG d_l_law_1111 (by decide) ?_
                                                  obtain ⟨g184, h⟩ := gmG_of h
                                                  refine gm_sub [1, 2, 3, 0] rfl ?_
                                                  exact ih g184 h hk
                                                · replace h := gmI_neg c183 h
                                                  refine gm_iconst hG d_l_law_805 ?_
                                                  exact gm_lret hF h d_l_law_806
                                              · replace h := gmI_neg c177 h
                                                by_cases c185 : ((xs (y3).toNat) % 64) = 21
                                                · replace h := gmI_pos c185 h
                                                  refine gm_tswIn (tgt := 807) hG 21 c185 (by decide) rfl d_l_law_33 (by decide) ?_
                                                  refine gm_aload_n hG 1 d_l_law_807 rfl rfl ?_
                                                  refine gm_aload_n hG 0 d_l_law_808 rfl rfl ?_
                                                  refine gm_iload_n hG 3 d_l_law_809 rfl rfl ?_
                                                  refine gm_iconst hG d_l_law_810 ?_
                                                  refine gm_iadd hG d_l_law_811 ?_
                                                  obtain ⟨g186, h⟩ := gmG_of h
                                                  refine gm_sld hG hX g186 d_l_law_812 ?_
                                                  obtain ⟨r188, s187, es187, h⟩ := gmB_of h
                                                  refine gm_callVi hG [.inl (xs ((y3 + 1)).toNat)] [] gmM_L_103 (Wx_partAlongExtent (hxs ((y3 + 1)).toNat) es187) gmKc_0 rfl (by decide) (Nat.le_of_ble_eq_true rfl) rfl d_l_law_813 (fun qr188 => ?_)
                                                  refine gm_ok (fun hOs187 => ?_)
                                                  refine gm_aload_n hG 2 d_l_law_816 rfl rfl ?_
                                                  refine gm_aload_n hG 0 d_l_law_817 rfl rfl ?_
                                                  refine gm_iload_n hG 3 d_l_law_818 rfl rfl ?_
                                                  refine gm_iconst hG d_l_law_819 ?_
                                                  refine gm_iadd hG d_l_law_820 ?_
                                                  refine gm_sld hG hX g186 d_l_law_821 ?_
                                                  obtain ⟨r190, s189, es189, h⟩ := gmB_of h
                                                  refine gm_callVi hG [.inl (xs ((y3 + 1)).toNat)] [.inl r188] gmM_L_106 (Wm_partAlongExtent (hxs ((y3 + 1)).toNat) es189) gmKc_133 rfl (by decide) (Nat.le_of_ble_eq_true rfl) rfl d_l_law_822 (fun qr190 => ?_)
                                                  refine gm_ok (fun hOs189 => ?_)
                                                  refine gm_icmp_eq (tgt := 1108) hG d_l_law_825 (by decide) qr188 qr190 (fun c191 => ?_) (fun c191 => ?_)
                                                  · replace h := gmI_pos c191 h
                                                    refine gm_iinc (lv' := [(3, .inl (y3 + 7)), (0, .inr 150), (1, .inr 0), (2, .inr 133)]) hG 3 d_l_law_1108 rfl (by decide) rfl ?_
                                                    refine gm_goto (tgt := 18) hG d_l_law_1111 (by decide) ?_
                                                    obtain ⟨g192, h⟩ := gmG_of h
                                                    refine gm_sub [1, 2, 3, 0] rfl ?_
                                                    exact ih g192 h hk
                                                  · replace h := gmI_neg c191 h
                                                    refine gm_iconst hG d_l_law_828 ?_
                                                    exact gm_lret hF h d_l_law_829
                                                · replace h := gmI_neg c185 h
                                                  by_cases c193 : ((xs (y3).toNat) % 64) = 22
                                                  · replace h := gmI_pos c193 h
                                                    refine gm_tswIn (tgt := 830) hG 22 c193 (by decide) rfl d_l_law_33 (by decide) ?_
                                                    refine gm_aload_n hG 1 d_l_law_830 rfl rfl ?_
                                                    refine gm_aload_n hG 0 d_l_law_831 rfl rfl ?_
                                                    refine gm_iload_n hG 3 d_l_law_832 rfl rfl ?_
                                                    refine gm_iconst hG d_l_law_833 ?_
                                                    refine gm_iadd hG d_l_law_834 ?_
                                                    obtain ⟨g194, h⟩ := gmG_of h
                                                    refine gm_sld hG hX g194 d_l_law_835 ?_
                                                    obtain ⟨r196, s195, es195, h⟩ := gmB_of h
                                                    refine gm_callVi hG [.inl (xs ((y3 + 1)).toNat)] [] gmM_L_107 (Wx_partAcrossExtent (hxs ((y3 + 1)).toNat) es195) gmKc_0 rfl (by decide) (Nat.le_of_ble_eq_true rfl) rfl d_l_law_836 (fun qr196 => ?_)
                                                    refine gm_ok (fun hOs195 => ?_)
                                                    refine gm_aload_n hG 2 d_l_law_839 rfl rfl ?_
                                                    refine gm_aload_n hG 0 d_l_law_840 rfl rfl ?_
                                                    refine gm_iload_n hG 3 d_l_law_841 rfl rfl ?_
                                                    refine gm_iconst hG d_l_law_842 ?_
                                                    refine gm_iadd hG d_l_law_843 ?_
                                                    refine gm_sld hG hX g194 d_l_law_844 ?_
                                                    obtain ⟨r198, s197, es197, h⟩ := gmB_of h
                                                    refine gm_callVi hG [.inl (xs ((y3 + 1)).toNat)] [.inl r196] gmM_L_110 (Wm_partAcrossExtent (hxs ((y3 + 1)).toNat) es197) gmKc_133 rfl (by decide) (Nat.le_of_ble_eq_true rfl) rfl d_l_law_845 (fun qr198 => ?_)
                                                    refine gm_ok (fun hOs197 => ?_)
                                                    refine gm_icmp_eq (tgt := 1108) hG d_l_law_848 (by decide) qr196 qr198 (fun c199 => ?_) (fun c199 => ?_)
                                                    · replace h := gmI_pos c199 h
                                                      refine gm_iinc (lv' := [(3, .inl (y3 + 7)), (0, .inr 150), (1, .inr 0), (2, .inr 133)]) hG 3 d_l_law_1108 rfl (by decide) rfl ?_
                                                      refine gm_goto (tgt := 18) hG d_l_law_1111 (by decide) ?_
                                                      obtain ⟨g200, h⟩ := gmG_of h
                                                      refine gm_sub [1, 2, 3, 0] rfl ?_
                                                      exact ih g200 h hk
                                                    · replace h := gmI_neg c199 h
                                                      refine gm_iconst hG d_l_law_851 ?_
                                                      exact gm_lret hF h d_l_law_852
                                                  · replace h := gmI_neg c193 h
                                                    by_cases c201 : ((xs (y3).toNat) % 64) = 23
                                                    · replace h := gmI_pos c201 h
                                                      refine gm_tswIn (tgt := 853) hG 23 c201 (by decide) rfl d_l_law_33 (by decide) ?_
                                                      refine gm_aload_n hG 1 d_l_law_853 rfl rfl ?_
                                                      obtain ⟨r203, s202, es202, h⟩ := gmB_of h
                                                      refine gm_callVi hG [] [] gmM_L_111 (Wx_markerLength es202) gmKc_0 rfl (by decide) (Nat.le_of_ble_eq_true rfl) rfl d_l_law_854 (fun qr203 => ?_)
                                                      refine gm_ok (fun hOs202 => ?_)
                                                      refine gm_aload_n hG 2 d_l_law_857 rfl rfl ?_
                                                      obtain ⟨r205, s204, es204, h⟩ := gmB_of h
                                                      refine gm_callVi hG [] [.inl r203] gmM_L_114 (Wm_markerLength es204) gmKc_133 rfl (by decide) (Nat.le_of_ble_eq_true rfl) rfl d_l_law_858 (fun qr205 => ?_)
                                                      refine gm_ok (fun hOs204 => ?_)
                                                      refine gm_icmp_eq (tgt := 1108) hG d_l_law_861 (by decide) qr203 qr205 (fun c206 => ?_) (fun c206 => ?_)
                                                      · replace h := gmI_pos c206 h
                                                        refine gm_iinc (lv' := [(3, .inl (y3 + 7)), (0, .inr 150), (1, .inr 0), (2, .inr 133)]) hG 3 d_l_law_1108 rfl (by decide) rfl ?_
                                                        refine gm_goto (tgt := 18) hG d_l_law_1111 (by decide) ?_
                                                        obtain ⟨g207, h⟩ := gmG_of h
                                                        refine gm_sub [1, 2, 3, 0] rfl ?_
                                                        exact ih g207 h hk
                                                      · replace h := gmI_neg c206 h
                                                        refine gm_iconst hG d_l_law_864 ?_
                                                        exact gm_lret hF h d_l_law_865
                                                    · replace h := gmI_neg c201 h
                                                      by_cases c208 : ((xs (y3).toNat) % 64) = 24
                                                      · replace h := gmI_pos c208 h
                                                        refine gm_tswIn (tgt := 866) hG 24 c208 (by decide) rfl d_l_law_33 (by decide) ?_
                                                        refine gm_aload_n hG 1 d_l_law_866 rfl rfl ?_
                                                        obtain ⟨r210, s209, es209, h⟩ := gmB_of h
                                                        refine gm_callVi hG [] [] gmM_L_115 (Wx_wastedArea es209) gmKc_0 rfl (by decide) (Nat.le_of_ble_eq_true rfl) rfl d_l_law_867 (fun qr210 => ?_)
                                                        refine gm_ok (fun hOs209 => ?_)
                                                        refine gm_aload_n hG 2 d_l_law_870 rfl rfl ?_
                                                        obtain ⟨r212, s211, es211, h⟩ := gmB_of h
                                                        refine gm_callVi hG [] [.inl r210] gmM_L_118 (Wm_wastedArea es211) gmKc_133 rfl (by decide) (Nat.le_of_ble_eq_true rfl) rfl d_l_law_871 (fun qr212 => ?_)
                                                        refine gm_ok (fun hOs211 => ?_)
                                                        refine gm_icmp_eq (tgt := 1108) hG d_l_law_874 (by decide) qr210 qr212 (fun c213 => ?_) (fun c213 => ?_)
                                                        · replace h := gmI_pos c213 h
                                                          refine gm_iinc (lv' := [(3, .inl (y3 + 7)), (0, .inr 150), (1, .inr 0), (2, .inr 133)]) hG 3 d_l_law_1108 rfl (by decide) rfl ?_
                                                          refine gm_goto (tgt := 18) hG d_l_law_1111 (by decide) ?_
                                                          obtain ⟨g214, h⟩ := gmG_of h
                                                          refine gm_sub [1, 2, 3, 0] rfl ?_
                                                          exact ih g214 h hk
                                                        · replace h := gmI_neg c213 h
                                                          refine gm_iconst hG d_l_law_877 ?_
                                                          exact gm_lret hF h d_l_law_878
                                                      · replace h := gmI_neg c208 h
                                                        by_cases c215 : ((xs (y3).toNat) % 64) = 25
                                                        · replace h := gmI_pos c215 h
                                                          refine gm_tswIn (tgt := 879) hG 25 c215 (by decide) rfl d_l_law_33 (by decide) ?_
                                                          refine gm_aload_n hG 1 d_l_law_879 rfl rfl ?_
                                                          refine gm_aload_n hG 0 d_l_law_880 rfl rfl ?_
                                                          refine gm_iload_n hG 3 d_l_law_881 rfl rfl ?_
                                                          refine gm_iconst hG d_l_law_882 ?_
                                                          refine gm_iadd hG d_l_law_883 ?_
                                                          obtain ⟨g216, h⟩ := gmG_of h
                                                          refine gm_sld hG hX g216 d_l_law_884 ?_
                                                          refine gm_aload_n hG 0 d_l_law_885 rfl rfl ?_
                                                          refine gm_iload_n hG 3 d_l_law_886 rfl rfl ?_
                                                          refine gm_iconst hG d_l_law_887 ?_
                                                          refine gm_iadd hG d_l_law_888 ?_
                                                          obtain ⟨g217, h⟩ := gmG_of h
                                                          refine gm_sld hG hX g217 d_l_law_889 ?_
                                                          obtain ⟨r219, s218, es218, h⟩ := gmB_of h
                                                          refine gm_callVi hG [.inl (xs ((y3 + 1)).toNat), .inl (xs ((y3 + 2)).toNat)] [] gmM_L_119 (Wx_markerLengthWith (hxs ((y3 + 1)).toNat) (hxs ((y3 + 2)).toNat) es218) gmKc_0 rfl (by decide) (Nat.le_of_ble_eq_true rfl) rfl d_l_law_890 (fun qr219 => ?_)
                                                          refine gm_ok (fun hOs218 => ?_)
                                                          refine gm_aload_n hG 2 d_l_law_893 rfl rfl ?_
                                                          refine gm_aload_n hG 0 d_l_law_894 rfl rfl ?_
                                                          refine gm_iload_n hG 3 d_l_law_895 rfl rfl ?_
                                                          refine gm_iconst hG d_l_law_896 ?_
                                                          refine gm_iadd hG d_l_law_897 ?_
                                                          refine gm_sld hG hX g216 d_l_law_898 ?_
                                                          refine gm_aload_n hG 0 d_l_law_899 rfl rfl ?_
                                                          refine gm_iload_n hG 3 d_l_law_900 rfl rfl ?_
                                                          refine gm_iconst hG d_l_law_901 ?_
                                                          refine gm_iadd hG d_l_law_902 ?_
                                                          refine gm_sld hG hX g217 d_l_law_903 ?_
                                                          obtain ⟨r221, s220, es220, h⟩ := gmB_of h
                                                          refine gm_callVi hG [.inl (xs ((y3 + 1)).toNat), .inl (xs ((y3 + 2)).toNat)] [.inl r219] gmM_L_122 (Wm_markerLengthWith (hxs ((y3 + 1)).toNat) (hxs ((y3 + 2)).toNat) es220) gmKc_133 rfl (by decide) (Nat.le_of_ble_eq_true rfl) rfl d_l_law_904 (fun qr221 => ?_)
                                                          refine gm_ok (fun hOs220 => ?_)
                                                          refine gm_icmp_eq (tgt := 1108) hG d_l_law_907 (by decide) qr219 qr221 (fun c222 => ?_) (fun c222 => ?_)
                                                          · replace h := gmI_pos c222 h
                                                            refine gm_iinc (lv' := [(3, .inl (y3 + 7)), (0, .inr 150), (1, .inr 0), (2, .inr 133)]) hG 3 d_l_law_1108 rfl (by decide) rfl ?_
                                                            refine gm_goto (tgt := 18) hG d_l_law_1111 (by decide) ?_
                                                            obtain ⟨g223, h⟩ := gmG_of h
                                                            refine gm_sub [1, 2, 3, 0] rfl ?_
                                                            exact ih g223 h hk
                                                          · replace h := gmI_neg c222 h
                                                            refine gm_iconst hG d_l_law_910 ?_
                                                            exact gm_lret hF h d_l_law_911
                                                        · replace h := gmI_neg c215 h
                                                          by_cases c224 : ((xs (y3).toNat) % 64) = 26
                                                          · replace h := gmI_pos c224 h
                                                            refine gm_tswIn (tgt := 912) hG 26 c224 (by decide) rfl d_l_law_33 (by decide) ?_
                                                            refine gm_aload_n hG 1 d_l_law_912 rfl rfl ?_
                                                            obtain ⟨r226, s225, es225, h⟩ := gmB_of h
                                                            refine gm_callVi hG [] [] gmM_L_123 (Wx_bestLength es225) gmKc_0 rfl (by decide) (Nat.le_of_ble_eq_true rfl) rfl d_l_law_913 (fun qr226 => ?_)
                                                            refine gm_ok (fun hOs225 => ?_)
                                                            refine gm_aload_n hG 2 d_l_law_916 rfl rfl ?_
                                                            obtain ⟨r228, s227, es227, h⟩ := gmB_of h
                                                            refine gm_callVi hG [] [.inl r226] gmM_L_126 (Wm_bestLength es227) gmKc_133 rfl (by decide) (Nat.le_of_ble_eq_true rfl) rfl d_l_law_917 (fun qr228 => ?_)
                                                            refine gm_ok (fun hOs227 => ?_)
                                                            refine gm_icmp_eq (tgt := 1108) hG d_l_law_920 (by decide) qr226 qr228 (fun c229 => ?_) (fun c229 => ?_)
                                                            · replace h := gmI_pos c229 h
                                                              refine gm_iinc (lv' := [(3, .inl (y3 + 7)), (0, .inr 150), (1, .inr 0), (2, .inr 133)]) hG 3 d_l_law_1108 rfl (by decide) rfl ?_
                                                              refine gm_goto (tgt := 18) hG d_l_law_1111 (by decide) ?_
                                                              obtain ⟨g230, h⟩ := gmG_of h
                                                              refine gm_sub [1, 2, 3, 0] rfl ?_
                                                              exact ih g230 h hk
                                                            · replace h := gmI_neg c229 h
                                                              refine gm_iconst hG d_l_law_923 ?_
                                                              exact gm_lret hF h d_l_law_924
                                                          · replace h := gmI_neg c224 h
                                                            by_cases c231 : ((xs (y3).toNat) % 64) = 27
                                                            · replace h := gmI_pos c231 h
                                                              refine gm_tswIn (tgt := 925) hG 27 c231 (by decide) rfl d_l_law_33 (by decide) ?_
                                                              refine gm_aload_n hG 1 d_l_law_925 rfl rfl ?_
                                                              obtain ⟨r233, s232, es232, h⟩ := gmB_of h
                                                              refine gm_callVi hG [] [] gmM_L_127 (Wx_bestPacking es232) gmKc_0 rfl (by decide) (Nat.le_of_ble_eq_true rfl) rfl d_l_law_926 (fun qr233 => ?_)
                                                              refine gm_ok (fun hOs232 => ?_)
                                                              refine gm_aload_n hG 2 d_l_law_929 rfl rfl ?_
                                                              obtain ⟨r235, s234, es234, h⟩ := gmB_of h
                                                              refine gm_callVi hG [] [.inl r233] gmM_L_130 (Wm_bestPacking es234) gmKc_133 rfl (by decide) (Nat.le_of_ble_eq_true rfl) rfl d_l_law_930 (fun qr235 => ?_)
                                                              refine gm_ok (fun hOs234 => ?_)
                                                              refine gm_icmp_eq (tgt := 1108) hG d_l_law_933 (by decide) qr233 qr235 (fun c236 => ?_) (fun c236 => ?_)
                                                              · replace h := gmI_pos c236 h
                                                                refine gm_iinc (lv' := [(3, .inl (y3 + 7)), (0, .inr 150), (1, .inr 0), (2, .inr 133)]) hG 3 d_l_law_1108 rfl (by decide) rfl ?_
                                                                refine gm_goto (tgt := 18) hG d_l_law_1111 (by decide) ?_
                                                                obtain ⟨g237, h⟩ := gmG_of h
                                                                refine gm_sub [1, 2, 3, 0] rfl ?_
                                                                exact ih g237 h hk
                                                              · replace h := gmI_neg c236 h
                                                                refine gm_iconst hG d_l_law_936 ?_
                                                                exact gm_lret hF h d_l_law_937
                                                            · replace h := gmI_neg c231 h
                                                              by_cases c238 : ((xs (y3).toNat) % 64) = 28
                                                              · replace h := gmI_pos c238 h
                                                                refine gm_tswIn (tgt := 938) hG 28 c238 (by decide) rfl d_l_law_33 (by decide) ?_
                                                                refine gm_aload_n hG 1 d_l_law_938 rfl rfl ?_
                                                                refine gm_aload_n hG 0 d_l_law_939 rfl rfl ?_
                                                                refine gm_iload_n hG 3 d_l_law_940 rfl rfl ?_
                                                                refine gm_iconst hG d_l_law_941 ?_
                                                                refine gm_iadd hG d_l_law_942 ?_
                                                                obtain ⟨g239, h⟩ := gmG_of h
                                                                refine gm_sld hG hX g239 d_l_law_943 ?_
                                                                refine gm_aload_n hG 0 d_l_law_944 rfl rfl ?_
                                                                refine gm_iload_n hG 3 d_l_law_945 rfl rfl ?_
                                                                refine gm_iconst hG d_l_law_946 ?_
                                                                refine gm_iadd hG d_l_law_947 ?_
                                                                obtain ⟨g240, h⟩ := gmG_of h
                                                                refine gm_sld hG hX g240 d_l_law_948 ?_
                                                                obtain ⟨r242, s241, es241, h⟩ := gmB_of h
                                                                refine gm_callVi hG [.inl (xs ((y3 + 1)).toNat), .inl (xs ((y3 + 2)).toNat)] [] gmM_L_131 (Wx_setOrdered (hxs ((y3 + 1)).toNat) (hxs ((y3 + 2)).toNat) es241) gmKc_0 rfl (by decide) (Nat.le_of_ble_eq_true rfl) rfl d_l_law_949 (fun qr242 => ?_)
                                                                refine gm_ok (fun hOs241 => ?_)
                                                                refine gm_aload_n hG 2 d_l_law_952 rfl rfl ?_
                                                                refine gm_aload_n hG 0 d_l_law_953 rfl rfl ?_
                                                                refine gm_iload_n hG 3 d_l_law_954 rfl rfl ?_
                                                                refine gm_iconst hG d_l_law_955 ?_
                                                                refine gm_iadd hG d_l_law_956 ?_
                                                                refine gm_sld hG hX g239 d_l_law_957 ?_
                                                                refine gm_aload_n hG 0 d_l_law_958 rfl rfl ?_
                                                                refine gm_iload_n hG 3 d_l_law_959 rfl rfl ?_
                                                                refine gm_iconst hG d_l_law_960 ?_
                                                                refine gm_iadd hG d_l_law_961 ?_
                                                                refine gm_sld hG hX g240 d_l_law_962 ?_
                                                                obtain ⟨r244, s243, es243, h⟩ := gmB_of h
                                                                refine gm_callVi hG [.inl (xs ((y3 + 1)).toNat), .inl (xs ((y3 + 2)).toNat)] [.inl r242] gmM_L_134 (Wm_setOrdered (hxs ((y3 + 1)).toNat) (hxs ((y3 + 2)).toNat) es243) gmKc_133 rfl (by decide) (Nat.le_of_ble_eq_true rfl) rfl d_l_law_963 (fun qr244 => ?_)
                                                                refine gm_ok (fun hOs243 => ?_)
                                                                refine gm_icmp_eq (tgt := 1108) hG d_l_law_966 (by decide) qr242 qr244 (fun c245 => ?_) (fun c245 => ?_)
                                                                · replace h := gmI_pos c245 h
                                                                  refine gm_iinc (lv' := [(3, .inl (y3 + 7)), (0, .inr 150), (1, .inr 0), (2, .inr 133)]) hG 3 d_l_law_1108 rfl (by decide) rfl ?_
                                                                  refine gm_goto (tgt := 18) hG d_l_law_1111 (by decide) ?_
                                                                  obtain ⟨g246, h⟩ := gmG_of h
                                                                  refine gm_sub [1, 2, 3, 0] rfl ?_
                                                                  exact ih g246 h hk
                                                                · replace h := gmI_neg c245 h
                                                                  refine gm_iconst hG d_l_law_969 ?_
                                                                  exact gm_lret hF h d_l_law_970
                                                              · replace h := gmI_neg c238 h
                                                                by_cases c247 : ((xs (y3).toNat) % 64) = 29
                                                                · replace h := gmI_pos c247 h
                                                                  refine gm_tswIn (tgt := 971) hG 29 c247 (by decide) rfl d_l_law_33 (by decide) ?_
                                                                  refine gm_aload_n hG 1 d_l_law_971 rfl rfl ?_
                                                                  obtain ⟨r249, s248, es248, h⟩ := gmB_of h
                                                                  refine gm_callVi hG [] [] gmM_L_135 (Wx_plies es248) gmKc_0 rfl (by decide) (Nat.le_of_ble_eq_true rfl) rfl d_l_law_972 (fun qr249 => ?_)
                                                                  refine gm_ok (fun hOs248 => ?_)
                                                                  refine gm_aload_n hG 2 d_l_law_975 rfl rfl ?_
                                                                  obtain ⟨r251, s250, es250, h⟩ := gmB_of h
                                                                  refine gm_callVi hG [] [.inl r249] gmM_L_138 (Wm_plies es250) gmKc_133 rfl (by decide) (Nat.le_of_ble_eq_true rfl) rfl d_l_law_976 (fun qr251 => ?_)
                                                                  refine gm_ok (fun hOs250 => ?_)
                                                                  refine gm_icmp_eq (tgt := 1108) hG d_l_law_979 (by decide) qr249 qr251 (fun c252 => ?_) (fun c252 => ?_)
                                                                  · replace h := gmI_pos c252 h
                                                                    refine gm_iinc (lv' := [(3, .inl (y3 + 7)), (0, .inr 150), (1, .inr 0), (2, .inr 133)]) hG 3 d_l_law_1108 rfl (by decide) rfl ?_
                                                                    refine gm_goto (tgt := 18) hG d_l_law_1111 (by decide) ?_
                                                                    obtain ⟨g253, h⟩ := gmG_of h
                                                                    refine gm_sub [1, 2, 3, 0] rfl ?_
                                                                    exact ih g253 h hk
                                                                  · replace h := gmI_neg c252 h
                                                                    refine gm_iconst hG d_l_law_982 ?_
                                                                    exact gm_lret hF h d_l_law_983
                                                                · replace h := gmI_neg c247 h
                                                                  by_cases c254 : ((xs (y3).toNat) % 64) = 30
                                                                  · replace h := gmI_pos c254 h
                                                                    refine gm_tswIn (tgt := 984) hG 30 c254 (by decide) rfl d_l_law_33 (by decide) ?_
                                                                    refine gm_aload_n hG 1 d_l_law_984 rfl rfl ?_
                                                                    obtain ⟨r256, s255, es255, h⟩ := gmB_of h
                                                                    refine gm_callVi hG [] [] gmM_L_139 (Wx_clothLength es255) gmKc_0 rfl (by decide) (Nat.le_of_ble_eq_true rfl) rfl d_l_law_985 (fun qr256 => ?_)
                                                                    refine gm_ok (fun hOs255 => ?_)
                                                                    refine gm_aload_n hG 2 d_l_law_988 rfl rfl ?_
                                                                    obtain ⟨r258, s257, es257, h⟩ := gmB_of h
                                                                    refine gm_callVi hG [] [.inl r256] gmM_L_142 (Wm_clothLength es257) gmKc_133 rfl (by decide) (Nat.le_of_ble_eq_true rfl) rfl d_l_law_989 (fun qr258 => ?_)
                                                                    refine gm_ok (fun hOs257 => ?_)
                                                                    refine gm_icmp_eq (tgt := 1108) hG d_l_law_992 (by decide) qr256 qr258 (fun c259 => ?_) (fun c259 => ?_)
                                                                    · replace h := gmI_pos c259 h
                                                                      refine gm_iinc (lv' := [(3, .inl (y3 + 7)), (0, .inr 150), (1, .inr 0), (2, .inr 133)]) hG 3 d_l_law_1108 rfl (by decide) rfl ?_
                                                                      refine gm_goto (tgt := 18) hG d_l_law_1111 (by decide) ?_
                                                                      obtain ⟨g260, h⟩ := gmG_of h
                                                                      refine gm_sub [1, 2, 3, 0] rfl ?_
                                                                      exact ih g260 h hk
                                                                    · replace h := gmI_neg c259 h
                                                                      refine gm_iconst hG d_l_law_995 ?_
                                                                      exact gm_lret hF h d_l_law_996
                                                                  · replace h := gmI_neg c254 h
                                                                    by_cases c261 : ((xs (y3).toNat) % 64) = 31
                                                                    · replace h := gmI_pos c261 h
                                                                      refine gm_tswIn (tgt := 997) hG 31 c261 (by decide) rfl d_l_law_33 (by decide) ?_
                                                                      refine gm_aload_n hG 1 d_l_law_997 rfl rfl ?_
                                                                      obtain ⟨r263, s262, es262, h⟩ := gmB_of h
                                                                      refine gm_callVi hG [] [] gmM_L_143 (Wx_surplus es262) gmKc_0 rfl (by decide) (Nat.le_of_ble_eq_true rfl) rfl d_l_law_998 (fun qr263 => ?_)
                                                                      refine gm_ok (fun hOs262 => ?_)
                                                                      refine gm_aload_n hG 2 d_l_law_1001 rfl rfl ?_
                                                                      obtain ⟨r265, s264, es264, h⟩ := gmB_of h
                                                                      refine gm_callVi hG [] [.inl r263] gmM_L_146 (Wm_surplus es264) gmKc_133 rfl (by decide) (Nat.le_of_ble_eq_true rfl) rfl d_l_law_1002 (fun qr265 => ?_)
                                                                      refine gm_ok (fun hOs264 => ?_)
                                                                      refine gm_icmp_eq (tgt := 1108) hG d_l_law_1005 (by decide) qr263 qr265 (fun c266 => ?_) (fun c266 => ?_)
                                                                      · replace h := gmI_pos c266 h
                                                                        refine gm_iinc (lv' := [(3, .inl (y3 + 7)), (0, .inr 150), (1, .inr 0), (2, .inr 133)]) hG 3 d_l_law_1108 rfl (by decide) rfl ?_
                                                                        refine gm_goto (tgt := 18) hG d_l_law_1111 (by decide) ?_
                                                                        obtain ⟨g267, h⟩ := gmG_of h
                                                                        refine gm_sub [1, 2, 3, 0] rfl ?_
                                                                        exact ih g267 h hk
                                                                      · replace h := gmI_neg c266 h
                                                                        refine gm_iconst hG d_l_law_1008 ?_
                                                                        exact gm_lret hF h d_l_law_1009
                                                                    · replace h := gmI_neg c261 h
                                                                      by_cases c268 : ((xs (y3).toNat) % 64) = 32
                                                                      · replace h := gmI_pos c268 h
                                                                        refine gm_tswIn (tgt := 1010) hG 32 c268 (by decide) rfl d_l_law_33 (by decide) ?_
                                                                        refine gm_aload_n hG 1 d_l_law_1010 rfl rfl ?_
                                                                        obtain ⟨r270, s269, es269, h⟩ := gmB_of h
                                                                        refine gm_callVi hG [] [] gmM_L_147 (Wx_goodMixes es269) gmKc_0 rfl (by decide) (Nat.le_of_ble_eq_true rfl) rfl d_l_law_1011 (fun qr270 => ?_)
                                                                        refine gm_ok (fun hOs269 => ?_)
                                                                        refine gm_aload_n hG 2 d_l_law_1014 rfl rfl ?_
                                                                        obtain ⟨r272, s271, es271, h⟩ := gmB_of h
                                                                        refine gm_callVi hG [] [.inl r270] gmM_L_150 (Wm_goodMixes es271) gmKc_133 rfl (by decide) (Nat.le_of_ble_eq_true rfl) rfl d_l_law_1015 (fun qr272 => ?_)
                                                                        refine gm_ok (fun hOs271 => ?_)
                                                                        refine gm_icmp_eq (tgt := 1108) hG d_l_law_1018 (by decide) qr270 qr272 (fun c273 => ?_) (fun c273 => ?_)
                                                                        · replace h := gmI_pos c273 h
                                                                          refine gm_iinc (lv' := [(3, .inl (y3 + 7)), (0, .inr 150), (1, .inr 0), (2, .inr 133)]) hG 3 d_l_law_1108 rfl (by decide) rfl ?_
                                                                          refine gm_goto (tgt := 18) hG d_l_law_1111 (by decide) ?_
                                                                          obtain ⟨g274, h⟩ := gmG_of h
                                                                          refine gm_sub [1, 2, 3, 0] rfl ?_
                                                                          exact ih g274 h hk
                                                                        · replace h := gmI_neg c273 h
                                                                          refine gm_iconst hG d_l_law_1021 ?_
                                                                          exact gm_lret hF h d_l_law_1022
                                                                      · replace h := gmI_neg c268 h
                                                                        by_cases c275 : ((xs (y3).toNat) % 64) = 33
                                                                        · replace h := gmI_pos c275 h
                                                                          refine gm_tswIn (tgt := 1023) hG 33 c275 (by decide) rfl d_l_law_33 (by decide) ?_
                                                                          refine gm_aload_n hG 1 d_l_law_1023 rfl rfl ?_
                                                                          obtain ⟨r277, s276, es276, h⟩ := gmB_of h
                                                                          refine gm_callVi hG [] [] gmM_L_151 (Wx_bestMix es276) gmKc_0 rfl (by decide) (Nat.le_of_ble_eq_true rfl) rfl d_l_law_1024 (fun qr277 => ?_)
                                                                          refine gm_ok (fun hOs276 => ?_)
                                                                          refine gm_aload_n hG 2 d_l_law_1027 rfl rfl ?_
                                                                          obtain ⟨r279, s278, es278, h⟩ := gmB_of h
                                                                          refine gm_callVi hG [] [.inl r277] gmM_L_154 (Wm_bestMix es278) gmKc_133 rfl (by decide) (Nat.le_of_ble_eq_true rfl) rfl d_l_law_1028 (fun qr279 => ?_)
                                                                          refine gm_ok (fun hOs278 => ?_)
                                                                          refine gm_icmp_eq (tgt := 1108) hG d_l_law_1031 (by decide) qr277 qr279 (fun c280 => ?_) (fun c280 => ?_)
                                                                          · replace h := gmI_pos c280 h
                                                                            refine gm_iinc (lv' := [(3, .inl (y3 + 7)), (0, .inr 150), (1, .inr 0), (2, .inr 133)]) hG 3 d_l_law_1108 rfl (by decide) rfl ?_
                                                                            refine gm_goto (tgt := 18) hG d_l_law_1111 (by decide) ?_
                                                                            obtain ⟨g281, h⟩ := gmG_of h
                                                                            refine gm_sub [1, 2, 3, 0] rfl ?_
                                                                            exact ih g281 h hk
                                                                          · replace h := gmI_neg c280 h
                                                                            refine gm_iconst hG d_l_law_1034 ?_
                                                                            exact gm_lret hF h d_l_law_1035
                                                                        · replace h := gmI_neg c275 h
                                                                          by_cases c282 : ((xs (y3).toNat) % 64) = 34
                                                                          · replace h := gmI_pos c282 h
                                                                            refine gm_tswIn (tgt := 1036) hG 34 c282 (by decide) rfl d_l_law_33 (by decide) ?_
                                                                            refine gm_aload_n hG 1 d_l_law_1036 rfl rfl ?_
                                                                            obtain ⟨r284, s283, es283, h⟩ := gmB_of h
                                                                            refine gm_callVi hG [] [] gmM_L_155 (Wx_bestMixCloth es283) gmKc_0 rfl (by decide) (Nat.le_of_ble_eq_true rfl) rfl d_l_law_1037 (fun qr284 => ?_)
                                                                            refine gm_ok (fun hOs283 => ?_)
                                                                            refine gm_aload_n hG 2 d_l_law_1040 rfl rfl ?_
                                                                            obtain ⟨r286, s285, es285, h⟩ := gmB_of h
                                                                            refine gm_callVi hG [] [.inl r284] gmM_L_158 (Wm_bestMixCloth es285) gmKc_133 rfl (by decide) (Nat.le_of_ble_eq_true rfl) rfl d_l_law_1041 (fun qr286 => ?_)
                                                                            refine gm_ok (fun hOs285 => ?_)
                                                                            refine gm_icmp_eq (tgt := 1108) hG d_l_law_1044 (by decide) qr284 qr286 (fun c287 => ?_) (fun c287 => ?_)
                                                                            · replace h := gmI_pos c287 h
                                                                              refine gm_iinc (lv' := [(3, .inl (y3 + 7)), (0, .inr 150), (1, .inr 0), (2, .inr 133)]) hG 3 d_l_law_1108 rfl (by decide) rfl ?_
                                                                              refine gm_goto (tgt := 18) hG d_l_law_1111 (by decide) ?_
                                                                              obtain ⟨g288, h⟩ := gmG_of h
                                                                              refine gm_sub [1, 2, 3, 0] rfl ?_
                                                                              exact ih g288 h hk
                                                                            · replace h := gmI_neg c287 h
                                                                              refine gm_iconst hG d_l_law_1047 ?_
                                                                              exact gm_lret hF h d_l_law_1048
                                                                          · replace h := gmI_neg c282 h
                                                                            by_cases c289 : ((xs (y3).toNat) % 64) = 35
                                                                            · replace h := gmI_pos c289 h
                                                                              refine gm_tswIn (tgt := 1049) hG 35 c289 (by decide) rfl d_l_law_33 (by decide) ?_
                                                                              refine gm_aload_n hG 1 d_l_law_1049 rfl rfl ?_
                                                                              obtain ⟨r291, s290, es290, h⟩ := gmB_of h
                                                                              refine gm_callVi hG [] [] gmM_L_159 (Wx_applyBestMix es290) gmKc_0 rfl (by decide) (Nat.le_of_ble_eq_true rfl) rfl d_l_law_1050 (fun qr291 => ?_)
                                                                              refine gm_ok (fun hOs290 => ?_)
                                                                              refine gm_aload_n hG 2 d_l_law_1053 rfl rfl ?_
                                                                              obtain ⟨r293, s292, es292, h⟩ := gmB_of h
                                                                              refine gm_callVi hG [] [.inl r291] gmM_L_162 (Wm_applyBestMix es292) gmKc_133 rfl (by decide) (Nat.le_of_ble_eq_true rfl) rfl d_l_law_1054 (fun qr293 => ?_)
                                                                              refine gm_ok (fun hOs292 => ?_)
                                                                              refine gm_icmp_eq (tgt := 1108) hG d_l_law_1057 (by decide) qr291 qr293 (fun c294 => ?_) (fun c294 => ?_)
                                                                              · replace h := gmI_pos c294 h
                                                                                refine gm_iinc (lv' := [(3, .inl (y3 + 7)), (0, .inr 150), (1, .inr 0), (2, .inr 133)]) hG 3 d_l_law_1108 rfl (by decide) rfl ?_
                                                                                refine gm_goto (tgt := 18) hG d_l_law_1111 (by decide) ?_
                                                                                obtain ⟨g295, h⟩ := gmG_of h
                                                                                refine gm_sub [1, 2, 3, 0] rfl ?_
                                                                                exact ih g295 h hk
                                                                              · replace h := gmI_neg c294 h
                                                                                refine gm_iconst hG d_l_law_1060 ?_
                                                                                exact gm_lret hF h d_l_law_1061
                                                                            · replace h := gmI_neg c289 h
                                                                              by_cases c296 : ((xs (y3).toNat) % 64) = 36
                                                                              · replace h := gmI_pos c296 h
                                                                                refine gm_tswIn (tgt := 1062) hG 36 c296 (by decide) rfl d_l_law_33 (by decide) ?_
                                                                                refine gm_aload_n hG 1 d_l_law_1062 rfl rfl ?_
                                                                                refine gm_aload_n hG 0 d_l_law_1063 rfl rfl ?_
                                                                                refine gm_iload_n hG 3 d_l_law_1064 rfl rfl ?_
                                                                                refine gm_iconst hG d_l_law_1065 ?_
                                                                                refine gm_iadd hG d_l_law_1066 ?_
                                                                                obtain ⟨g297, h⟩ := gmG_of h
                                                                                refine gm_sld hG hX g297 d_l_law_1067 ?_
                                                                                obtain ⟨r299, s298, es298, h⟩ := gmB_of h
                                                                                refine gm_callVi hG [.inl (xs ((y3 + 1)).toNat)] [] gmM_L_163 (Wx_save (hxs ((y3 + 1)).toNat) es298) gmKc_0 rfl (by decide) (Nat.le_of_ble_eq_true rfl) rfl d_l_law_1068 (fun qr299 => ?_)
                                                                                refine gm_ok (fun hOs298 => ?_)
                                                                                refine gm_aload_n hG 2 d_l_law_1071 rfl rfl ?_
                                                                                refine gm_aload_n hG 0 d_l_law_1072 rfl rfl ?_
                                                                                refine gm_iload_n hG 3 d_l_law_1073 rfl rfl ?_
                                                                                refine gm_iconst hG d_l_law_1074 ?_
                                                                                refine gm_iadd hG d_l_law_1075 ?_
                                                                                refine gm_sld hG hX g297 d_l_law_1076 ?_
                                                                                obtain ⟨r301, s300, es300, h⟩ := gmB_of h
                                                                                refine gm_callVi hG [.inl (xs ((y3 + 1)).toNat)] [.inl r299] gmM_L_166 (Wm_save (hxs ((y3 + 1)).toNat) es300) gmKc_133 rfl (by decide) (Nat.le_of_ble_eq_true rfl) rfl d_l_law_1077 (fun qr301 => ?_)
                                                                                refine gm_ok (fun hOs300 => ?_)
                                                                                refine gm_icmp_eq (tgt := 1108) hG d_l_law_1080 (by decide) qr299 qr301 (fun c302 => ?_) (fun c302 => ?_)
                                                                                · replace h := gmI_pos c302 h
                                                                                  refine gm_iinc (lv' := [(3, .inl (y3 + 7)), (0, .inr 150), (1, .inr 0), (2, .inr 133)]) hG 3 d_l_law_1108 rfl (by decide) rfl ?_
                                                                                  refine gm_goto (tgt := 18) hG d_l_law_1111 (by decide) ?_
                                                                                  obtain ⟨g303, h⟩ := gmG_of h
                                                                                  refine gm_sub [1, 2, 3, 0] rfl ?_
                                                                                  exact ih g303 h hk
                                                                                · replace h := gmI_neg c302 h
                                                                                  refine gm_iconst hG d_l_law_1083 ?_
                                                                                  exact gm_lret hF h d_l_law_1084
                                                                              · replace h := gmI_neg c296 h
                                                                                by_cases c304 : ((xs (y3).toNat) % 64) = 37
                                                                                · replace h := gmI_pos c304 h
                                                                                  refine gm_tswIn (tgt := 1085) hG 37 c304 (by decide) rfl d_l_law_33 (by decide) ?_
                                                                                  refine gm_aload_n hG 1 d_l_law_1085 rfl rfl ?_
                                                                                  refine gm_aload_n hG 0 d_l_law_1086 rfl rfl ?_
                                                                                  refine gm_iload_n hG 3 d_l_law_1087 rfl rfl ?_
                                                                                  refine gm_iconst hG d_l_law_1088 ?_
                                                                                  refine gm_iadd hG d_l_law_1089 ?_
                                                                                  obtain ⟨g305, h⟩ := gmG_of h
                                                                                  refine gm_sld hG hX g305 d_l_law_1090 ?_
                                                                                  obtain ⟨r307, s306, es306, h⟩ := gmB_of h
                                                                                  refine gm_callVi hG [.inl (xs ((y3 + 1)).toNat)] [] gmM_L_167 (Wx_restore (hxs ((y3 + 1)).toNat) es306) gmKc_0 rfl (by decide) (Nat.le_of_ble_eq_true rfl) rfl d_l_law_1091 (fun qr307 => ?_)
                                                                                  refine gm_ok (fun hOs306 => ?_)
                                                                                  refine gm_aload_n hG 2 d_l_law_1094 rfl rfl ?_
                                                                                  refine gm_aload_n hG 0 d_l_law_1095 rfl rfl ?_
                                                                                  refine gm_iload_n hG 3 d_l_law_1096 rfl rfl ?_
                                                                                  refine gm_iconst hG d_l_law_1097 ?_
                                                                                  refine gm_iadd hG d_l_law_1098 ?_
                                                                                  refine gm_sld hG hX g305 d_l_law_1099 ?_
                                                                                  obtain ⟨r309, s308, es308, h⟩ := gmB_of h
                                                                                  refine gm_callVi hG [.inl (xs ((y3 + 1)).toNat)] [.inl r307] gmM_L_170 (Wm_restore (hxs ((y3 + 1)).toNat) es308) gmKc_133 rfl (by decide) (Nat.le_of_ble_eq_true rfl) rfl d_l_law_1100 (fun qr309 => ?_)
                                                                                  refine gm_ok (fun hOs308 => ?_)
                                                                                  refine gm_icmp_eq (tgt := 1108) hG d_l_law_1103 (by decide) qr307 qr309 (fun c310 => ?_) (fun c310 => ?_)
                                                                                  · replace h := gmI_pos c310 h
                                                                                    refine gm_iinc (lv' := [(3, .inl (y3 + 7)), (0, .inr 150), (1, .inr 0), (2, .inr 133)]) hG 3 d_l_law_1108 rfl (by decide) rfl ?_
                                                                                    refine gm_goto (tgt := 18) hG d_l_law_1111 (by decide) ?_
                                                                                    obtain ⟨g311, h⟩ := gmG_of h
                                                                                    refine gm_sub [1, 2, 3, 0] rfl ?_
                                                                                    exact ih g311 h hk
                                                                                  · replace h := gmI_neg c310 h
                                                                                    refine gm_iconst hG d_l_law_1106 ?_
                                                                                    exact gm_lret hF h d_l_law_1107
                                                                                · replace h := gmI_neg c304 h
                                                                                  refine gm_tswOut (tgt := 1108) hG gm_k64 (by omega) d_l_law_33 (by decide) ?_
                                                                                  refine gm_iinc (lv' := [(3, .inl (y3 + 7)), (0, .inr 150), (1, .inr 0), (2, .inr 133)]) hG 3 d_l_law_1108 rfl (by decide) rfl ?_
                                                                                  refine gm_goto (tgt := 18) hG d_l_law_1111 (by decide) ?_
                                                                                  obtain ⟨g312, h⟩ := gmG_of h
                                                                                  refine gm_sub [1, 2, 3, 0] rfl ?_
                                                                                  exact ih g312 h hk
theorem L_step {f g : St → Option (Int × St)} {σ : St} {n L y : Nat} {xs : Nat → Int} {k : St → Option (Int × St)} (h : Same f g σ) (ih : ∀ σ2, Rel σ2 → ∃ σ', Fl_law_18 n L xs ((y + 7 : Nat) : Int) σ2 k = some (1, σ')) (hy : y + 7 < 2147483648) : ∃ σ', gmB (f σ) (fun r s => gmB (g s) (fun r' s' => if r = r' then gmG (gmR ((y : Int) + 7)) (Fl_law_18 n L xs ((y : Int) + 7) s' k) else some (0, s'))) = some (1, σ') := by
  obtain ⟨r, σ1, σ2, e1, e2, hR2⟩ := h
  obtain ⟨σ', e3⟩ := ih σ2 hR2
  refine ⟨σ', ?_⟩
  rw [e1, gmB_s, e2, gmB_s, if_pos rfl, gmG_t ⟨by omega, by omega⟩, show (y : Int) + 7 = ((y + 7 : Nat) : Int) by omega]
  exact e3
set_option maxHeartbeats 4000000 in
theorem L_law {L : Nat} {xs : Nat → Int} (hL : L ≤ 3584) : ∀ (d n y : Nat) (σ : St), d < n → L < y + 7 * (d + 1) → y ≤ 3584 → Rel σ → ∃ σ', Fl_law_18 n L xs (y : Int) σ (fun s => some (1, s)) = some (1, σ') := by
  intro d
  induction d with
  | zero =>
    intro n y σ hn hd hy hR
    obtain ⟨n, rfl⟩ : ∃ m, n = m + 1 := ⟨n - 1, by omega⟩
    exact ⟨σ, by rw [Fl_law_18.eq_2, gmG_t ⟨by omega, by omega⟩, if_pos (by omega)]⟩
  | succ d ih =>
    intro n y σ hn hd hy hR
    obtain ⟨n, rfl⟩ : ∃ m, n = m + 1 := ⟨n - 1, by omega⟩
    rw [Fl_law_18.eq_2, gmG_t ⟨by omega, by omega⟩]
    by_cases hx : (L : Int) - 7 < y
    · exact ⟨σ, by rw [if_pos hx]⟩
    rw [if_neg hx, gmG_t (by omega)]
    have ih : ∀ σ2, Rel σ2 → ∃ σ', Fl_law_18 n L xs ((y + 7 : Nat) : Int) σ2 (fun s => some (1, s)) = some (1, σ') := fun σ2 h2 => ih n (y + 7) σ2 (by omega) (by omega) (by omega) h2
    have hy7 : y + 7 < 2147483648 := by omega
    generalize (xs ((y : Int)).toNat) % 64 = w
    by_cases c0 : w = 0
    · rw [if_pos c0, gmG_t (by omega), gmG_t (by omega), gmG_t (by omega), gmG_t (by omega), gmG_t (by omega), gmG_t (by omega)]
      exact L_step (Op_definePiece hR _ _ _ _ _ _) ih hy7
    rw [if_neg c0]
    by_cases c1 : w = 1
    · rw [if_pos c1, gmG_t (by omega)]
      exact L_step (Op_removePiece hR _) ih hy7
    rw [if_neg c1]
    by_cases c2 : w = 2
    · rw [if_pos c2, gmG_t (by omega), gmG_t (by omega)]
      exact L_step (Op_side hR _ _).1 ih hy7
    rw [if_neg c2]
    by_cases c3 : w = 3
    · rw [if_pos c3, gmG_t (by omega), gmG_t (by omega)]
      exact L_step (Op_side hR _ _).2 ih hy7
    rw [if_neg c3]
    by_cases c4 : w = 4
    · rw [if_pos c4, gmG_t (by omega), gmG_t (by omega), gmG_t (by omega), gmG_t (by omega), gmG_t (by omega)]
      exact L_step (Op_addSeam hR _ _ _ _ _) ih hy7
    rw [if_neg c4]
    by_cases c5 : w = 5
    · rw [if_pos c5]
      exact L_step (Op_seamCount hR) ih hy7
    rw [if_neg c5]
    by_cases c6 : w = 6
    · rw [if_pos c6, gmG_t (by omega), gmG_t (by omega)]
      exact L_step (Op_seamDifference hR _ _) ih hy7
    rw [if_neg c6]
    by_cases c7 : w = 7
    · rw [if_pos c7]
      exact L_step (Op_matchingSeams hR) ih hy7
    rw [if_neg c7]
    by_cases c8 : w = 8
    · rw [if_pos c8]
      exact L_step (Op_firstMismatch hR) ih hy7
    rw [if_neg c8]
    by_cases c9 : w = 9
    · rw [if_pos c9, gmG_t (by omega), gmG_t (by omega)]
      exact L_step (Op_setRatio hR _ _) ih hy7
    rw [if_neg c9]
    by_cases c10 : w = 10
    · rw [if_pos c10, gmG_t (by omega)]
      exact L_step (Op_ratio hR _) ih hy7
    rw [if_neg c10]
    by_cases c11 : w = 11
    · rw [if_pos c11, gmG_t (by omega)]
      exact L_step (Op_setClothWidth hR _) ih hy7
    rw [if_neg c11]
    by_cases c12 : w = 12
    · rw [if_pos c12, gmG_t (by omega)]
      exact L_step (Op_setFolded hR (by split; exact Or.inl rfl; exact Or.inr rfl)) ih hy7
    rw [if_neg c12]
    by_cases c13 : w = 13
    · rw [if_pos c13, gmG_t (by omega)]
      exact L_step (Op_setRotation hR (by split; exact Or.inl rfl; exact Or.inr rfl)) ih hy7
    rw [if_neg c13]
    by_cases c14 : w = 14
    · rw [if_pos c14, gmG_t (by omega), gmG_t (by omega)]
      exact L_step (Op_setPacking hR _ _) ih hy7
    rw [if_neg c14]
    by_cases c15 : w = 15
    · rw [if_pos c15]
      exact L_step (Op_partCount hR) ih hy7
    rw [if_neg c15]
    by_cases c16 : w = 16
    · rw [if_pos c16]
      exact L_step (Op_foldPartCount hR) ih hy7
    rw [if_neg c16]
    by_cases c17 : w = 17
    · rw [if_pos c17, gmG_t (by omega)]
      exact L_step (Op_partSize hR _) ih hy7
    rw [if_neg c17]
    by_cases c18 : w = 18
    · rw [if_pos c18, gmG_t (by omega)]
      exact L_step (Op_partPiece hR _) ih hy7
    rw [if_neg c18]
    by_cases c19 : w = 19
    · rw [if_pos c19, gmG_t (by omega)]
      exact L_step (Op_partAlong hR _) ih hy7
    rw [if_neg c19]
    by_cases c20 : w = 20
    · rw [if_pos c20, gmG_t (by omega)]
      exact L_step (Op_partAcross hR _) ih hy7
    rw [if_neg c20]
    by_cases c21 : w = 21
    · rw [if_pos c21, gmG_t (by omega)]
      exact L_step (Op_partAlongExtent hR _) ih hy7
    rw [if_neg c21]
    by_cases c22 : w = 22
    · rw [if_pos c22, gmG_t (by omega)]
      exact L_step (Op_partAcrossExtent hR _) ih hy7
    rw [if_neg c22]
    by_cases c23 : w = 23
    · rw [if_pos c23]
      exact L_step (Op_markerLength hR) ih hy7
    rw [if_neg c23]
    by_cases c24 : w = 24
    · rw [if_pos c24]
      exact L_step (Op_wastedArea hR) ih hy7
    rw [if_neg c24]
    by_cases c25 : w = 25
    · rw [if_pos c25, gmG_t (by omega), gmG_t (by omega)]
      exact L_step (Op_markerLengthWith hR _ _) ih hy7
    rw [if_neg c25]
    by_cases c26 : w = 26
    · rw [if_pos c26]
      exact L_step (Op_best hR).1 ih hy7
    rw [if_neg c26]
    by_cases c27 : w = 27
    · rw [if_pos c27]
      exact L_step (Op_best hR).2 ih hy7
    rw [if_neg c27]
    by_cases c28 : w = 28
    · rw [if_pos c28, gmG_t (by omega), gmG_t (by omega)]
      exact L_step (Op_setOrdered hR _ _) ih hy7
    rw [if_neg c28]
    by_cases c29 : w = 29
    · rw [if_pos c29]
      exact L_step (Op_plies hR) ih hy7
    rw [if_neg c29]
    by_cases c30 : w = 30
    · rw [if_pos c30]
      exact L_step (Op_clothLength hR) ih hy7
    rw [if_neg c30]
    by_cases c31 : w = 31
    · rw [if_pos c31]
      exact L_step (Op_surplus hR) ih hy7
    rw [if_neg c31]
    by_cases c32 : w = 32
    · rw [if_pos c32]
      exact L_step (Op_goodMixes hR) ih hy7
    rw [if_neg c32]
    by_cases c33 : w = 33
    · rw [if_pos c33]
      exact L_step (Op_bestMix hR).1 ih hy7
    rw [if_neg c33]
    by_cases c34 : w = 34
    · rw [if_pos c34]
      exact L_step (Op_bestMix hR).2 ih hy7
    rw [if_neg c34]
    by_cases c35 : w = 35
    · rw [if_pos c35]
      exact L_step (Op_applyBestMix hR) ih hy7
    rw [if_neg c35]
    by_cases c36 : w = 36
    · rw [if_pos c36, gmG_t (by omega)]
      exact L_step (Op_save hR _) ih hy7
    rw [if_neg c36]
    by_cases c37 : w = 37
    · rw [if_pos c37, gmG_t (by omega)]
      exact L_step (Op_restore hR _) ih hy7
    rw [if_neg c37]
    rw [gmG_t ⟨by omega, by omega⟩, show (y : Int) + 7 = ((y + 7 : Nat) : Int) by omega]
    exact ih σ hR
