/-! ===== the law's twenty cases (written by gen96.py) ===== -/
section LWR3
variable {p : Program} {l : Launch} {e : Env} {s : State} {m : MethodId} {below : List Frame} {meth : Method} {c : Code} {ad L : Nat} {xs : Nat → Int32} {X : mm_X} {w : mm_M} {r y : Bool} {i : Int}
abbrev lwL (i : Int) : List (Option mm_V) := [none, some (.inr (some (21, 0))), some (.inr (some (1, 0))), some (.inl i)]
set_option maxRecDepth 20000 in
theorem lc_write (hC : lwC p s m meth c ad L xs X) (hi : 0 ≤ i ∧ i + 5 ≤ L) (hI : INV w (r, true) y) (ih : ∀ rr yy w2, INV w2 (rr, true) yy → lwW p l e s m below meth c ad X (pot rr yy) 668 (lwL i) [] (PH (rr, true) yy) w2) : lwW p l e s m below meth c ad X (pot r y) 128 (lwL i) [] (PH (r, true) y) w := by
  obtain ⟨nC, rr, yy, hp, hE⟩ := st_write (l := (xs (i + 1).toNat).toInt) w r y hI
  refine l_aload hC d_law_128 rfl ?_
  refine l_arg hC d_law_129 d_law_130 d_law_131 d_law_132 d_law_133 rfl hi (by decide) ?_
  refine l_call (n1 := pot rr yy) hC d_law_134 mp_law_13 hE rfl (by decide) rfl (by obtain ⟨a, b⟩ := hp; exact ⟨a, b⟩) ?_
  rintro _ _ w1 ⟨rfl, z, rfl, hE2⟩
  refine l_aload hC d_law_137 rfl ?_
  refine l_arg hC d_law_138 d_law_139 d_law_140 d_law_141 d_law_142 rfl hi (by decide) ?_
  refine l_call (n1 := pot rr yy) hC d_law_143 mp_law_17 hE2 rfl rfl rfl ⟨by omega, by omega⟩ ?_
  rintro _ _ w2 ⟨rfl, rfl, hI2⟩
  refine l_eq hC d_law_146 (tgt := 668) (by decide) ?_
  exact ih rr yy w2 hI2
set_option maxRecDepth 20000 in
theorem lc_wipe (hC : lwC p s m meth c ad L xs X) (hi : 0 ≤ i ∧ i + 5 ≤ L) (hI : INV w (r, true) y) (ih : ∀ rr yy w2, INV w2 (rr, true) yy → lwW p l e s m below meth c ad X (pot rr yy) 668 (lwL i) [] (PH (rr, true) yy) w2) : lwW p l e s m below meth c ad X (pot r y) 151 (lwL i) [] (PH (r, true) y) w := by
  obtain ⟨nC, rr, yy, hp, hE⟩ := st_wipe w r y hI
  refine l_aload hC d_law_151 rfl ?_
  refine l_call (n1 := pot rr yy) hC d_law_152 mp_law_18 hE rfl (by decide) rfl (by obtain ⟨a, b⟩ := hp; exact ⟨a, b⟩) ?_
  rintro _ _ w1 ⟨rfl, z, rfl, hE2⟩
  refine l_aload hC d_law_155 rfl ?_
  refine l_call (n1 := pot rr yy) hC d_law_156 mp_law_22 hE2 rfl rfl rfl ⟨by omega, by omega⟩ ?_
  rintro _ _ w2 ⟨rfl, rfl, hI2⟩
  refine l_eq hC d_law_159 (tgt := 668) (by decide) ?_
  exact ih rr yy w2 hI2
set_option maxRecDepth 20000 in
theorem lc_fault (hC : lwC p s m meth c ad L xs X) (hi : 0 ≤ i ∧ i + 5 ≤ L) (hI : INV w (r, true) y) (ih : ∀ rr yy w2, INV w2 (rr, true) yy → lwW p l e s m below meth c ad X (pot rr yy) 668 (lwL i) [] (PH (rr, true) yy) w2) : lwW p l e s m below meth c ad X (pot r y) 164 (lwL i) [] (PH (r, true) y) w := by
  obtain ⟨nC, rr, yy, hp, hE⟩ := st_fault w r y hI
  refine l_aload hC d_law_164 rfl ?_
  refine l_call (n1 := pot rr yy) hC d_law_165 mp_law_23 hE rfl (by decide) rfl (by obtain ⟨a, b⟩ := hp; exact ⟨a, b⟩) ?_
  rintro _ _ w1 ⟨rfl, z, rfl, hE2⟩
  refine l_aload hC d_law_168 rfl ?_
  refine l_call (n1 := pot rr yy) hC d_law_169 mp_law_26 hE2 rfl rfl rfl ⟨by omega, by omega⟩ ?_
  rintro _ _ w2 ⟨rfl, rfl, hI2⟩
  refine l_eq hC d_law_172 (tgt := 668) (by decide) ?_
  exact ih rr yy w2 hI2
set_option maxRecDepth 20000 in
theorem lc_lay (hC : lwC p s m meth c ad L xs X) (hi : 0 ≤ i ∧ i + 5 ≤ L) (hI : INV w (r, true) y) (ih : ∀ rr yy w2, INV w2 (rr, true) yy → lwW p l e s m below meth c ad X (pot rr yy) 668 (lwL i) [] (PH (rr, true) yy) w2) : lwW p l e s m below meth c ad X (pot r y) 177 (lwL i) [] (PH (r, true) y) w := by
  obtain ⟨nC, rr, yy, hp, hE⟩ := st_lay w r y hI
  refine l_aload hC d_law_177 rfl ?_
  refine l_call (n1 := pot rr yy) hC d_law_178 mp_law_27 hE rfl (by decide) rfl (by obtain ⟨a, b⟩ := hp; exact ⟨a, b⟩) ?_
  rintro _ _ w1 ⟨rfl, z, rfl, hE2⟩
  refine l_aload hC d_law_181 rfl ?_
  refine l_call (n1 := pot rr yy) hC d_law_182 mp_law_30 hE2 rfl rfl rfl ⟨by omega, by omega⟩ ?_
  rintro _ _ w2 ⟨rfl, rfl, hI2⟩
  refine l_eq hC d_law_185 (tgt := 668) (by decide) ?_
  exact ih rr yy w2 hI2
set_option maxRecDepth 20000 in
theorem lc_edge (hC : lwC p s m meth c ad L xs X) (hi : 0 ≤ i ∧ i + 5 ≤ L) (hI : INV w (r, true) y) (ih : ∀ rr yy w2, INV w2 (rr, true) yy → lwW p l e s m below meth c ad X (pot rr yy) 668 (lwL i) [] (PH (rr, true) yy) w2) : lwW p l e s m below meth c ad X (pot r y) 190 (lwL i) [] (PH (r, true) y) w := by
  obtain ⟨nC, rr, yy, hp, hE⟩ := st_edge (x := (xs (i + 1).toNat).toInt) (k := (xs (i + 2).toNat).toInt) w r y hI
  refine l_aload hC d_law_190 rfl ?_
  refine l_arg hC d_law_191 d_law_192 d_law_193 d_law_194 d_law_195 rfl hi (by decide) ?_
  refine l_arg hC d_law_196 d_law_197 d_law_198 d_law_199 d_law_200 rfl hi (by decide) ?_
  refine l_call (n1 := pot rr yy) hC d_law_201 mp_law_31 hE rfl (by decide) rfl (by obtain ⟨a, b⟩ := hp; exact ⟨a, b⟩) ?_
  rintro _ _ w1 ⟨rfl, z, rfl, hE2⟩
  refine l_aload hC d_law_204 rfl ?_
  refine l_arg hC d_law_205 d_law_206 d_law_207 d_law_208 d_law_209 rfl hi (by decide) ?_
  refine l_arg hC d_law_210 d_law_211 d_law_212 d_law_213 d_law_214 rfl hi (by decide) ?_
  refine l_call (n1 := pot rr yy) hC d_law_215 mp_law_35 hE2 rfl rfl rfl ⟨by omega, by omega⟩ ?_
  rintro _ _ w2 ⟨rfl, rfl, hI2⟩
  refine l_eq hC d_law_218 (tgt := 668) (by decide) ?_
  exact ih rr yy w2 hI2
set_option maxRecDepth 20000 in
theorem lc_turn (hC : lwC p s m meth c ad L xs X) (hi : 0 ≤ i ∧ i + 5 ≤ L) (hI : INV w (r, true) y) (ih : ∀ rr yy w2, INV w2 (rr, true) yy → lwW p l e s m below meth c ad X (pot rr yy) 668 (lwL i) [] (PH (rr, true) yy) w2) : lwW p l e s m below meth c ad X (pot r y) 223 (lwL i) [] (PH (r, true) y) w := by
  obtain ⟨nC, rr, yy, hp, hE⟩ := st_turn (x := (xs (i + 1).toNat).toInt) w r y hI
  refine l_aload hC d_law_223 rfl ?_
  refine l_arg hC d_law_224 d_law_225 d_law_226 d_law_227 d_law_228 rfl hi (by decide) ?_
  refine l_call (n1 := pot rr yy) hC d_law_229 mp_law_36 hE rfl (by decide) rfl (by obtain ⟨a, b⟩ := hp; exact ⟨a, b⟩) ?_
  rintro _ _ w1 ⟨rfl, z, rfl, hE2⟩
  refine l_aload hC d_law_232 rfl ?_
  refine l_arg hC d_law_233 d_law_234 d_law_235 d_law_236 d_law_237 rfl hi (by decide) ?_
  refine l_call (n1 := pot rr yy) hC d_law_238 mp_law_39 hE2 rfl rfl rfl ⟨by omega, by omega⟩ ?_
  rintro _ _ w2 ⟨rfl, rfl, hI2⟩
  refine l_eq hC d_law_241 (tgt := 668) (by decide) ?_
  exact ih rr yy w2 hI2
set_option maxRecDepth 20000 in
theorem lc_so (hC : lwC p s m meth c ad L xs X) (hi : 0 ≤ i ∧ i + 5 ≤ L) (hI : INV w (r, true) y) (ih : ∀ rr yy w2, INV w2 (rr, true) yy → lwW p l e s m below meth c ad X (pot rr yy) 668 (lwL i) [] (PH (rr, true) yy) w2) : lwW p l e s m below meth c ad X (pot r y) 246 (lwL i) [] (PH (r, true) y) w := by
  obtain ⟨nC, rr, yy, hp, hE⟩ := st_so (g := (xs (i + 1).toNat).toInt) (a := (xs (i + 2).toNat).toInt) (b := (xs (i + 3).toNat).toInt) (c := (xs (i + 4).toNat).toInt) w r y hI
  refine l_aload hC d_law_246 rfl ?_
  refine l_arg hC d_law_247 d_law_248 d_law_249 d_law_250 d_law_251 rfl hi (by decide) ?_
  refine l_arg hC d_law_252 d_law_253 d_law_254 d_law_255 d_law_256 rfl hi (by decide) ?_
  refine l_arg hC d_law_257 d_law_258 d_law_259 d_law_260 d_law_261 rfl hi (by decide) ?_
  refine l_arg hC d_law_262 d_law_263 d_law_264 d_law_265 d_law_266 rfl hi (by decide) ?_
  refine l_call (n1 := pot rr yy) hC d_law_267 mp_law_40 hE rfl (by decide) rfl (by obtain ⟨a, b⟩ := hp; exact ⟨a, b⟩) ?_
  rintro _ _ w1 ⟨rfl, z, rfl, hE2⟩
  refine l_aload hC d_law_270 rfl ?_
  refine l_arg hC d_law_271 d_law_272 d_law_273 d_law_274 d_law_275 rfl hi (by decide) ?_
  refine l_arg hC d_law_276 d_law_277 d_law_278 d_law_279 d_law_280 rfl hi (by decide) ?_
  refine l_arg hC d_law_281 d_law_282 d_law_283 d_law_284 d_law_285 rfl hi (by decide) ?_
  refine l_arg hC d_law_286 d_law_287 d_law_288 d_law_289 d_law_290 rfl hi (by decide) ?_
  refine l_call (n1 := pot rr yy) hC d_law_291 mp_law_44 hE2 rfl rfl rfl ⟨by omega, by omega⟩ ?_
  rintro _ _ w2 ⟨rfl, rfl, hI2⟩
  refine l_eq hC d_law_294 (tgt := 668) (by decide) ?_
  exact ih rr yy w2 hI2
set_option maxRecDepth 20000 in
theorem lc_gone (hC : lwC p s m meth c ad L xs X) (hi : 0 ≤ i ∧ i + 5 ≤ L) (hI : INV w (r, true) y) (ih : ∀ rr yy w2, INV w2 (rr, true) yy → lwW p l e s m below meth c ad X (pot rr yy) 668 (lwL i) [] (PH (rr, true) yy) w2) : lwW p l e s m below meth c ad X (pot r y) 299 (lwL i) [] (PH (r, true) y) w := by
  obtain ⟨nC, rr, yy, hp, hE⟩ := st_gone (x := (xs (i + 1).toNat).toInt) (a := (xs (i + 2).toNat).toInt) (b := (xs (i + 3).toNat).toInt) (c := (xs (i + 4).toNat).toInt) w r y hI
  refine l_aload hC d_law_299 rfl ?_
  refine l_arg hC d_law_300 d_law_301 d_law_302 d_law_303 d_law_304 rfl hi (by decide) ?_
  refine l_arg hC d_law_305 d_law_306 d_law_307 d_law_308 d_law_309 rfl hi (by decide) ?_
  refine l_arg hC d_law_310 d_law_311 d_law_312 d_law_313 d_law_314 rfl hi (by decide) ?_
  refine l_arg hC d_law_315 d_law_316 d_law_317 d_law_318 d_law_319 rfl hi (by decide) ?_
  refine l_call (n1 := pot rr yy) hC d_law_320 mp_law_45 hE rfl (by decide) rfl (by obtain ⟨a, b⟩ := hp; exact ⟨a, b⟩) ?_
  rintro _ _ w1 ⟨rfl, z, rfl, hE2⟩
  refine l_aload hC d_law_323 rfl ?_
  refine l_arg hC d_law_324 d_law_325 d_law_326 d_law_327 d_law_328 rfl hi (by decide) ?_
  refine l_arg hC d_law_329 d_law_330 d_law_331 d_law_332 d_law_333 rfl hi (by decide) ?_
  refine l_arg hC d_law_334 d_law_335 d_law_336 d_law_337 d_law_338 rfl hi (by decide) ?_
  refine l_arg hC d_law_339 d_law_340 d_law_341 d_law_342 d_law_343 rfl hi (by decide) ?_
  refine l_call (n1 := pot rr yy) hC d_law_344 mp_law_48 hE2 rfl rfl rfl ⟨by omega, by omega⟩ ?_
  rintro _ _ w2 ⟨rfl, rfl, hI2⟩
  refine l_eq hC d_law_347 (tgt := 668) (by decide) ?_
  exact ih rr yy w2 hI2
set_option maxRecDepth 20000 in
theorem lc_real (hC : lwC p s m meth c ad L xs X) (hi : 0 ≤ i ∧ i + 5 ≤ L) (hI : INV w (r, true) y) (ih : ∀ rr yy w2, INV w2 (rr, true) yy → lwW p l e s m below meth c ad X (pot rr yy) 668 (lwL i) [] (PH (rr, true) yy) w2) : lwW p l e s m below meth c ad X (pot r y) 352 (lwL i) [] (PH (r, true) y) w := by
  obtain ⟨nC, rr, yy, hp, hE⟩ := st_real (p := (xs (i + 1).toNat).toInt) (k := (xs (i + 2).toNat).toInt) w r y hI
  refine l_aload hC d_law_352 rfl ?_
  refine l_arg hC d_law_353 d_law_354 d_law_355 d_law_356 d_law_357 rfl hi (by decide) ?_
  refine l_arg hC d_law_358 d_law_359 d_law_360 d_law_361 d_law_362 rfl hi (by decide) ?_
  refine l_call (n1 := pot rr yy) hC d_law_363 mp_law_49 hE rfl (by decide) rfl (by obtain ⟨a, b⟩ := hp; exact ⟨a, b⟩) ?_
  rintro _ _ w1 ⟨rfl, z, rfl, hE2⟩
  refine l_aload hC d_law_366 rfl ?_
  refine l_arg hC d_law_367 d_law_368 d_law_369 d_law_370 d_law_371 rfl hi (by decide) ?_
  refine l_arg hC d_law_372 d_law_373 d_law_374 d_law_375 d_law_376 rfl hi (by decide) ?_
  refine l_call (n1 := pot rr yy) hC d_law_377 mp_law_52 hE2 rfl rfl rfl ⟨by omega, by omega⟩ ?_
  rintro _ _ w2 ⟨rfl, rfl, hI2⟩
  refine l_eq hC d_law_380 (tgt := 668) (by decide) ?_
  exact ih rr yy w2 hI2
set_option maxRecDepth 20000 in
theorem lc_run (hC : lwC p s m meth c ad L xs X) (hi : 0 ≤ i ∧ i + 5 ≤ L) (hI : INV w (r, true) y) (ih : ∀ rr yy w2, INV w2 (rr, true) yy → lwW p l e s m below meth c ad X (pot rr yy) 668 (lwL i) [] (PH (rr, true) yy) w2) : lwW p l e s m below meth c ad X (pot r y) 385 (lwL i) [] (PH (r, true) y) w := by
  obtain ⟨nC, rr, yy, hp, hE⟩ := st_run (i := (xs (i + 1).toNat).toInt) w r y hI
  refine l_aload hC d_law_385 rfl ?_
  refine l_arg hC d_law_386 d_law_387 d_law_388 d_law_389 d_law_390 rfl hi (by decide) ?_
  refine l_call (n1 := pot rr yy) hC d_law_391 mp_law_53 hE rfl (by decide) rfl (by obtain ⟨a, b⟩ := hp; exact ⟨a, b⟩) ?_
  rintro _ _ w1 ⟨rfl, z, rfl, hE2⟩
  refine l_aload hC d_law_394 rfl ?_
  refine l_arg hC d_law_395 d_law_396 d_law_397 d_law_398 d_law_399 rfl hi (by decide) ?_
  refine l_call (n1 := pot rr yy) hC d_law_400 mp_law_56 hE2 rfl rfl rfl ⟨by omega, by omega⟩ ?_
  rintro _ _ w2 ⟨rfl, rfl, hI2⟩
  refine l_eq hC d_law_403 (tgt := 668) (by decide) ?_
  exact ih rr yy w2 hI2
set_option maxRecDepth 20000 in
theorem lc_look (hC : lwC p s m meth c ad L xs X) (hi : 0 ≤ i ∧ i + 5 ≤ L) (hI : INV w (r, true) y) (ih : ∀ rr yy w2, INV w2 (rr, true) yy → lwW p l e s m below meth c ad X (pot rr yy) 668 (lwL i) [] (PH (rr, true) yy) w2) : lwW p l e s m below meth c ad X (pot r y) 408 (lwL i) [] (PH (r, true) y) w := by
  obtain ⟨nC, rr, yy, hp, hE⟩ := st_look (p := (xs (i + 1).toNat).toInt) (g := (xs (i + 2).toNat).toInt) (i := (xs (i + 3).toNat).toInt) w r y hI
  refine l_aload hC d_law_408 rfl ?_
  refine l_arg hC d_law_409 d_law_410 d_law_411 d_law_412 d_law_413 rfl hi (by decide) ?_
  refine l_arg hC d_law_414 d_law_415 d_law_416 d_law_417 d_law_418 rfl hi (by decide) ?_
  refine l_arg hC d_law_419 d_law_420 d_law_421 d_law_422 d_law_423 rfl hi (by decide) ?_
  refine l_call (n1 := pot rr yy) hC d_law_424 mp_law_57 hE rfl (by decide) rfl (by obtain ⟨a, b⟩ := hp; exact ⟨a, b⟩) ?_
  rintro _ _ w1 ⟨rfl, z, rfl, hE2⟩
  refine l_aload hC d_law_427 rfl ?_
  refine l_arg hC d_law_428 d_law_429 d_law_430 d_law_431 d_law_432 rfl hi (by decide) ?_
  refine l_arg hC d_law_433 d_law_434 d_law_435 d_law_436 d_law_437 rfl hi (by decide) ?_
  refine l_arg hC d_law_438 d_law_439 d_law_440 d_law_441 d_law_442 rfl hi (by decide) ?_
  refine l_call (n1 := pot rr yy) hC d_law_443 mp_law_61 hE2 rfl rfl rfl ⟨by omega, by omega⟩ ?_
  rintro _ _ w2 ⟨rfl, rfl, hI2⟩
  refine l_eq hC d_law_446 (tgt := 668) (by decide) ?_
  exact ih rr yy w2 hI2
set_option maxRecDepth 20000 in
theorem lc_looked (hC : lwC p s m meth c ad L xs X) (hi : 0 ≤ i ∧ i + 5 ≤ L) (hI : INV w (r, true) y) (ih : ∀ rr yy w2, INV w2 (rr, true) yy → lwW p l e s m below meth c ad X (pot rr yy) 668 (lwL i) [] (PH (rr, true) yy) w2) : lwW p l e s m below meth c ad X (pot r y) 451 (lwL i) [] (PH (r, true) y) w := by
  obtain ⟨nC, rr, yy, hp, hE⟩ := st_looked (p := (xs (i + 1).toNat).toInt) w r y hI
  refine l_aload hC d_law_451 rfl ?_
  refine l_arg hC d_law_452 d_law_453 d_law_454 d_law_455 d_law_456 rfl hi (by decide) ?_
  refine l_call (n1 := pot rr yy) hC d_law_457 mp_law_62 hE rfl (by decide) rfl (by obtain ⟨a, b⟩ := hp; exact ⟨a, b⟩) ?_
  rintro _ _ w1 ⟨rfl, z, rfl, hE2⟩
  refine l_aload hC d_law_460 rfl ?_
  refine l_arg hC d_law_461 d_law_462 d_law_463 d_law_464 d_law_465 rfl hi (by decide) ?_
  refine l_call (n1 := pot rr yy) hC d_law_466 mp_law_65 hE2 rfl rfl rfl ⟨by omega, by omega⟩ ?_
  rintro _ _ w2 ⟨rfl, rfl, hI2⟩
  refine l_eq hC d_law_469 (tgt := 668) (by decide) ?_
  exact ih rr yy w2 hI2
set_option maxRecDepth 20000 in
theorem lc_may (hC : lwC p s m meth c ad L xs X) (hi : 0 ≤ i ∧ i + 5 ≤ L) (hI : INV w (r, true) y) (ih : ∀ rr yy w2, INV w2 (rr, true) yy → lwW p l e s m below meth c ad X (pot rr yy) 668 (lwL i) [] (PH (rr, true) yy) w2) : lwW p l e s m below meth c ad X (pot r y) 474 (lwL i) [] (PH (r, true) y) w := by
  obtain ⟨nC, rr, yy, hp, hE⟩ := st_may (x := (xs (i + 1).toNat).toInt) (cb := (xs (i + 2).toNat).toInt) (u := (xs (i + 3).toNat).toInt) w r y hI
  refine l_aload hC d_law_474 rfl ?_
  refine l_arg hC d_law_475 d_law_476 d_law_477 d_law_478 d_law_479 rfl hi (by decide) ?_
  refine l_arg hC d_law_480 d_law_481 d_law_482 d_law_483 d_law_484 rfl hi (by decide) ?_
  refine l_arg hC d_law_485 d_law_486 d_law_487 d_law_488 d_law_489 rfl hi (by decide) ?_
  refine l_call (n1 := pot rr yy) hC d_law_490 mp_law_66 hE rfl (by decide) rfl (by obtain ⟨a, b⟩ := hp; exact ⟨a, b⟩) ?_
  rintro _ _ w1 ⟨rfl, z, rfl, hE2⟩
  refine l_aload hC d_law_493 rfl ?_
  refine l_arg hC d_law_494 d_law_495 d_law_496 d_law_497 d_law_498 rfl hi (by decide) ?_
  refine l_arg hC d_law_499 d_law_500 d_law_501 d_law_502 d_law_503 rfl hi (by decide) ?_
  refine l_arg hC d_law_504 d_law_505 d_law_506 d_law_507 d_law_508 rfl hi (by decide) ?_
  refine l_call (n1 := pot rr yy) hC d_law_509 mp_law_69 hE2 rfl rfl rfl ⟨by omega, by omega⟩ ?_
  rintro _ _ w2 ⟨rfl, rfl, hI2⟩
  refine l_eq hC d_law_512 (tgt := 668) (by decide) ?_
  exact ih rr yy w2 hI2
set_option maxRecDepth 20000 in
theorem lc_state (hC : lwC p s m meth c ad L xs X) (hi : 0 ≤ i ∧ i + 5 ≤ L) (hI : INV w (r, true) y) (ih : ∀ rr yy w2, INV w2 (rr, true) yy → lwW p l e s m below meth c ad X (pot rr yy) 668 (lwL i) [] (PH (rr, true) yy) w2) : lwW p l e s m below meth c ad X (pot r y) 517 (lwL i) [] (PH (r, true) y) w := by
  obtain ⟨nC, rr, yy, hp, hE⟩ := st_state (p := (xs (i + 1).toNat).toInt) (i := (xs (i + 2).toNat).toInt) w r y hI
  refine l_aload hC d_law_517 rfl ?_
  refine l_arg hC d_law_518 d_law_519 d_law_520 d_law_521 d_law_522 rfl hi (by decide) ?_
  refine l_arg hC d_law_523 d_law_524 d_law_525 d_law_526 d_law_527 rfl hi (by decide) ?_
  refine l_call (n1 := pot rr yy) hC d_law_528 mp_law_70 hE rfl (by decide) rfl (by obtain ⟨a, b⟩ := hp; exact ⟨a, b⟩) ?_
  rintro _ _ w1 ⟨rfl, z, rfl, hE2⟩
  refine l_aload hC d_law_531 rfl ?_
  refine l_arg hC d_law_532 d_law_533 d_law_534 d_law_535 d_law_536 rfl hi (by decide) ?_
  refine l_arg hC d_law_537 d_law_538 d_law_539 d_law_540 d_law_541 rfl hi (by decide) ?_
  refine l_call (n1 := pot rr yy) hC d_law_542 mp_law_73 hE2 rfl rfl rfl ⟨by omega, by omega⟩ ?_
  rintro _ _ w2 ⟨rfl, rfl, hI2⟩
  refine l_eq hC d_law_545 (tgt := 668) (by decide) ?_
  exact ih rr yy w2 hI2
set_option maxRecDepth 20000 in
theorem lc_found (hC : lwC p s m meth c ad L xs X) (hi : 0 ≤ i ∧ i + 5 ≤ L) (hI : INV w (r, true) y) (ih : ∀ rr yy w2, INV w2 (rr, true) yy → lwW p l e s m below meth c ad X (pot rr yy) 668 (lwL i) [] (PH (rr, true) yy) w2) : lwW p l e s m below meth c ad X (pot r y) 550 (lwL i) [] (PH (r, true) y) w := by
  obtain ⟨nC, rr, yy, hp, hE⟩ := st_found (p := (xs (i + 1).toNat).toInt) w r y hI
  refine l_aload hC d_law_550 rfl ?_
  refine l_arg hC d_law_551 d_law_552 d_law_553 d_law_554 d_law_555 rfl hi (by decide) ?_
  refine l_call (n1 := pot rr yy) hC d_law_556 mp_law_74 hE rfl (by decide) rfl (by obtain ⟨a, b⟩ := hp; exact ⟨a, b⟩) ?_
  rintro _ _ w1 ⟨rfl, z, rfl, hE2⟩
  refine l_aload hC d_law_559 rfl ?_
  refine l_arg hC d_law_560 d_law_561 d_law_562 d_law_563 d_law_564 rfl hi (by decide) ?_
  refine l_call (n1 := pot rr yy) hC d_law_565 mp_law_77 hE2 rfl rfl rfl ⟨by omega, by omega⟩ ?_
  rintro _ _ w2 ⟨rfl, rfl, hI2⟩
  refine l_eq hC d_law_568 (tgt := 668) (by decide) ?_
  exact ih rr yy w2 hI2
set_option maxRecDepth 20000 in
theorem lc_path (hC : lwC p s m meth c ad L xs X) (hi : 0 ≤ i ∧ i + 5 ≤ L) (hI : INV w (r, true) y) (ih : ∀ rr yy w2, INV w2 (rr, true) yy → lwW p l e s m below meth c ad X (pot rr yy) 668 (lwL i) [] (PH (rr, true) yy) w2) : lwW p l e s m below meth c ad X (pot r y) 573 (lwL i) [] (PH (r, true) y) w := by
  obtain ⟨nC, rr, yy, hp, hE⟩ := st_path (i := (xs (i + 1).toNat).toInt) w r y hI
  refine l_aload hC d_law_573 rfl ?_
  refine l_arg hC d_law_574 d_law_575 d_law_576 d_law_577 d_law_578 rfl hi (by decide) ?_
  refine l_call (n1 := pot rr yy) hC d_law_579 mp_law_78 hE rfl (by decide) rfl (by obtain ⟨a, b⟩ := hp; exact ⟨a, b⟩) ?_
  rintro _ _ w1 ⟨rfl, z, rfl, hE2⟩
  refine l_aload hC d_law_582 rfl ?_
  refine l_arg hC d_law_583 d_law_584 d_law_585 d_law_586 d_law_587 rfl hi (by decide) ?_
  refine l_call (n1 := pot rr yy) hC d_law_588 mp_law_81 hE2 rfl rfl rfl ⟨by omega, by omega⟩ ?_
  rintro _ _ w2 ⟨rfl, rfl, hI2⟩
  refine l_eq hC d_law_591 (tgt := 668) (by decide) ?_
  exact ih rr yy w2 hI2
set_option maxRecDepth 20000 in
theorem lc_mend (hC : lwC p s m meth c ad L xs X) (hi : 0 ≤ i ∧ i + 5 ≤ L) (hI : INV w (r, true) y) (ih : ∀ rr yy w2, INV w2 (rr, true) yy → lwW p l e s m below meth c ad X (pot rr yy) 668 (lwL i) [] (PH (rr, true) yy) w2) : lwW p l e s m below meth c ad X (pot r y) 596 (lwL i) [] (PH (r, true) y) w := by
  obtain ⟨nC, rr, yy, hp, hE⟩ := st_mend w r y hI
  refine l_aload hC d_law_596 rfl ?_
  refine l_call (n1 := pot rr yy) hC d_law_597 mp_law_82 hE rfl (by decide) rfl (by obtain ⟨a, b⟩ := hp; exact ⟨a, b⟩) ?_
  rintro _ _ w1 ⟨rfl, z, rfl, hE2⟩
  refine l_aload hC d_law_600 rfl ?_
  refine l_call (n1 := pot rr yy) hC d_law_601 mp_law_85 hE2 rfl rfl rfl ⟨by omega, by omega⟩ ?_
  rintro _ _ w2 ⟨rfl, rfl, hI2⟩
  refine l_eq hC d_law_604 (tgt := 668) (by decide) ?_
  exact ih rr yy w2 hI2
set_option maxRecDepth 20000 in
theorem lc_check (hC : lwC p s m meth c ad L xs X) (hi : 0 ≤ i ∧ i + 5 ≤ L) (hI : INV w (r, true) y) (ih : ∀ rr yy w2, INV w2 (rr, true) yy → lwW p l e s m below meth c ad X (pot rr yy) 668 (lwL i) [] (PH (rr, true) yy) w2) : lwW p l e s m below meth c ad X (pot r y) 609 (lwL i) [] (PH (r, true) y) w := by
  obtain ⟨nC, rr, yy, hp, hE⟩ := st_check (m := (xs (i + 1).toNat).toInt) w r y hI
  refine l_aload hC d_law_609 rfl ?_
  refine l_arg hC d_law_610 d_law_611 d_law_612 d_law_613 d_law_614 rfl hi (by decide) ?_
  refine l_call (n1 := pot rr yy) hC d_law_615 mp_law_86 hE rfl (by decide) rfl (by obtain ⟨a, b⟩ := hp; exact ⟨a, b⟩) ?_
  rintro _ _ w1 ⟨rfl, z, rfl, hE2⟩
  refine l_aload hC d_law_618 rfl ?_
  refine l_arg hC d_law_619 d_law_620 d_law_621 d_law_622 d_law_623 rfl hi (by decide) ?_
  refine l_call (n1 := pot rr yy) hC d_law_624 mp_law_89 hE2 rfl rfl rfl ⟨by omega, by omega⟩ ?_
  rintro _ _ w2 ⟨rfl, rfl, hI2⟩
  refine l_eq hC d_law_627 (tgt := 668) (by decide) ?_
  exact ih rr yy w2 hI2
set_option maxRecDepth 20000 in
theorem lc_undo (hC : lwC p s m meth c ad L xs X) (hi : 0 ≤ i ∧ i + 5 ≤ L) (hI : INV w (r, true) y) (ih : ∀ rr yy w2, INV w2 (rr, true) yy → lwW p l e s m below meth c ad X (pot rr yy) 668 (lwL i) [] (PH (rr, true) yy) w2) : lwW p l e s m below meth c ad X (pot r y) 632 (lwL i) [] (PH (r, true) y) w := by
  obtain ⟨nC, rr, yy, hp, hE⟩ := st_undo w r y hI
  refine l_aload hC d_law_632 rfl ?_
  refine l_call (n1 := pot rr yy) hC d_law_633 mp_law_90 hE rfl (by decide) rfl (by obtain ⟨a, b⟩ := hp; exact ⟨a, b⟩) ?_
  rintro _ _ w1 ⟨rfl, z, rfl, hE2⟩
  refine l_aload hC d_law_636 rfl ?_
  refine l_call (n1 := pot rr yy) hC d_law_637 mp_law_93 hE2 rfl rfl rfl ⟨by omega, by omega⟩ ?_
  rintro _ _ w2 ⟨rfl, rfl, hI2⟩
  refine l_eq hC d_law_640 (tgt := 668) (by decide) ?_
  exact ih rr yy w2 hI2
set_option maxRecDepth 20000 in
theorem lc_count (hC : lwC p s m meth c ad L xs X) (hi : 0 ≤ i ∧ i + 5 ≤ L) (hI : INV w (r, true) y) (ih : ∀ rr yy w2, INV w2 (rr, true) yy → lwW p l e s m below meth c ad X (pot rr yy) 668 (lwL i) [] (PH (rr, true) yy) w2) : lwW p l e s m below meth c ad X (pot r y) 645 (lwL i) [] (PH (r, true) y) w := by
  obtain ⟨nC, rr, yy, hp, hE⟩ := st_count (i := (xs (i + 1).toNat).toInt) w r y hI
  refine l_aload hC d_law_645 rfl ?_
  refine l_arg hC d_law_646 d_law_647 d_law_648 d_law_649 d_law_650 rfl hi (by decide) ?_
  refine l_call (n1 := pot rr yy) hC d_law_651 mp_law_94 hE rfl (by decide) rfl (by obtain ⟨a, b⟩ := hp; exact ⟨a, b⟩) ?_
  rintro _ _ w1 ⟨rfl, z, rfl, hE2⟩
  refine l_aload hC d_law_654 rfl ?_
  refine l_arg hC d_law_655 d_law_656 d_law_657 d_law_658 d_law_659 rfl hi (by decide) ?_
  refine l_call (n1 := pot rr yy) hC d_law_660 mp_law_97 hE2 rfl rfl rfl ⟨by omega, by omega⟩ ?_
  rintro _ _ w2 ⟨rfl, rfl, hI2⟩
  refine l_eq hC d_law_663 (tgt := 668) (by decide) ?_
  exact ih rr yy w2 hI2
end LWR3
