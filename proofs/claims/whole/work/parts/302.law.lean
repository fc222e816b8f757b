/-- the script: outside the world, only read -/
def CxS (p : Program) (l : Launch) (s : State) (m : MethodId) (args : Array Value) (meth : Method) (c : Code) (B0 : Nat) (X : Nat → Nat) (L9 : Nat) (xs9 : Nat → Int32) : Prop :=
  Cx p l s m args meth c B0 X RL "law" cL_law 7 (some .boolean) [] ∧ va_X (X (aE + 5)) L9 xs9 s s.heap ∧ X (aE + 5) < B0
def sX (L9 : Nat) (xs9 : Nat → Int32) (i : Int32) : Option Int32 := if i < 0 ∨ L9 ≤ i.toNatClampNeg then none else some (xs9 i.toNatClampNeg)
/-- the end of all: what was made is within what the claim has -/
def wE (c z : Nat) (o : aO) : aP := match o with
  | some (r, h) => if c ≤ 601024 ∧ z ≤ 7293034 then some (r, h, 601024, 7293034) else none
  | none => none
theorem wE_at {c z mc ms : Nat} {o : aO} {r : aR} {h : aH} (g : wE c z o = some (r, h, mc, ms)) : o = some (r, h) ∧ c ≤ mc ∧ z ≤ ms := by
  match o, g with
  | some (r1, h1), g =>
    unfold wE at g
    dsimp only at g
    split at g
    · rename_i q
      obtain ⟨rfl, rfl, rfl, rfl⟩ := nInj g
      exact ⟨rfl, q⟩
    · cases g
section
variable {p : Program} {l : Launch} {e : Env} {R : Room} {s : State} {m : MethodId} {args : Array Value} {below : List Frame} {meth : Method} {c : Code} {D : va_G} {B0 : Nat} {X : Nat → Nat} {ws0 : va_W} {r : aR} {h' : aH} {mc ms nL cells slots pc : Nat} {L : List (Option Value)} {st : List Value} {h : aH}
variable {own nm : String} {cc : ByteArray} {ret : Option FieldType} {hh : List (Nat × Nat × Nat × Nat)} {L9 : Nat} {xs9 : Nat → Int32}
theorem Ev.widen {c2 z2 : Nat} (hc : cells ≤ c2) (hz : slots ≤ z2) (kk : Ev p l e R s m args below meth c D B0 X ws0 r h' mc ms nL c2 z2 pc L st h) : Ev p l e R s m args below meth c D B0 X ws0 r h' mc ms nL cells slots pc L st h :=
  fun ws H locs ls mst hx hw hS hl hs => W.widen hc hz (kk ws H locs ls mst hx hw hS hl hs)
theorem ev_sX (C : Cx p l s m args meth c B0 X own nm cc nL ret hh) (C2 : va_X (X (aE + 5)) L9 xs9 s s.heap ∧ X (aE + 5) < B0) {i x : Int32} (hg : sX L9 xs9 i = some x) (hd : decode cc pc = .ok (.iaload, 1)) (kk : Ev p l e R s m args below meth c D B0 X ws0 r h' mc ms nL cells slots (pc + 1) L (.int x :: st) h) : Ev p l e R s m args below meth c D B0 X ws0 r h' mc ms nL cells slots pc L (.int i :: .ref (aE + 5) :: st) h := by
  intro ws H locs ls mst hx hw hS hl hs
  obtain ⟨_, _, rfl, rfl, mv, mst, rfl, h2, hs⟩ := hs
  unfold sX at hg
  split at hg
  · cases hg
  · rename_i hi
    cases hg
    rcases h2 with ⟨q, -⟩ | ⟨-, rfl⟩ | ⟨q, -⟩
    · exact absurd q (Nat.not_lt.mpr (Nat.le_add_right _ _))
    · exact va_sld C.1 C.2.1 C2.1 (Nat.lt_of_lt_of_le C2.2 (C.2.2.2.2.2.2.2.2.1.2.2.2.2.2.2.2.2.2)) (fun q => Nat.not_le.mpr C2.2 q) hS hi hd (kk ws H locs ls _ hx hw hS hl ⟨_, _, rfl, rfl, hs⟩)
    · exact absurd q (Nat.ne_of_gt (Nat.lt_add_of_pos_right (by decide)))
theorem ev_sL (C : Cx p l s m args meth c B0 X own nm cc nL ret hh) (C2 : va_X (X (aE + 5)) L9 xs9 s s.heap ∧ X (aE + 5) < B0) (hd : decode cc pc = .ok (.arraylength, 1)) (kk : Ev p l e R s m args below meth c D B0 X ws0 r h' mc ms nL cells slots (pc + 1) L (.int (Int32.ofNat L9) :: st) h) : Ev p l e R s m args below meth c D B0 X ws0 r h' mc ms nL cells slots pc L (.ref (aE + 5) :: st) h := by
  intro ws H locs ls mst hx hw hS hl hs
  obtain ⟨mv, mst, rfl, h2, hs⟩ := hs
  rcases h2 with ⟨q, -⟩ | ⟨-, rfl⟩ | ⟨q, -⟩
  · exact absurd q (Nat.not_lt.mpr (Nat.le_add_right _ _))
  · exact va_slen C.1 C.2.1 C2.1 (Nat.lt_of_lt_of_le C2.2 (C.2.2.2.2.2.2.2.2.1.2.2.2.2.2.2.2.2.2)) (fun q => Nat.not_le.mpr C2.2 q) hS hd (kk ws H locs ls _ hx hw hS hl ⟨_, _, rfl, rfl, hs⟩)
  · exact absurd q (Nat.ne_of_gt (Nat.lt_add_of_pos_right (by decide)))
end

theorem dL_law_0 : decode cL_law 0 = .ok (.new 8, 3) := by decide +kernel
theorem dL_law_3 : decode cL_law 3 = .ok (.dup, 1) := by decide +kernel
theorem dL_law_4 : decode cL_law 4 = .ok (.invokespecial 15, 3) := by decide +kernel
theorem dL_law_7 : decode cL_law 7 = .ok (.astore_n 1, 1) := by decide +kernel
theorem dL_law_8 : decode cL_law 8 = .ok (.new 16, 3) := by decide +kernel
theorem dL_law_11 : decode cL_law 11 = .ok (.dup, 1) := by decide +kernel
theorem dL_law_12 : decode cL_law 12 = .ok (.invokespecial 18, 3) := by decide +kernel
theorem dL_law_15 : decode cL_law 15 = .ok (.astore_n 2, 1) := by decide +kernel
theorem dL_law_16 : decode cL_law 16 = .ok (.iconst 1, 1) := by decide +kernel
theorem dL_law_17 : decode cL_law 17 = .ok (.newarray .long, 2) := by decide +kernel
theorem dL_law_19 : decode cL_law 19 = .ok (.astore_n 3, 1) := by decide +kernel
theorem dL_law_20 : decode cL_law 20 = .ok (.iconst 0, 1) := by decide +kernel
theorem dL_law_21 : decode cL_law 21 = .ok (.istore 4, 2) := by decide +kernel
theorem dL_law_23 : decode cL_law 23 = .ok (.iload 4, 2) := by decide +kernel
theorem dL_law_25 : decode cL_law 25 = .ok (.aload_n 0, 1) := by decide +kernel
theorem dL_law_26 : decode cL_law 26 = .ok (.arraylength, 1) := by decide +kernel
theorem dL_law_27 : decode cL_law 27 = .ok (.bipush 6, 2) := by decide +kernel
theorem dL_law_29 : decode cL_law 29 = .ok (.isub, 1) := by decide +kernel
theorem dL_law_30 : decode cL_law 30 = .ok (.if_icmp .gt 1681, 3) := by decide +kernel
theorem dL_law_33 : decode cL_law 33 = .ok (.aload_n 0, 1) := by decide +kernel
theorem dL_law_34 : decode cL_law 34 = .ok (.iload 4, 2) := by decide +kernel
theorem dL_law_36 : decode cL_law 36 = .ok (.iaload, 1) := by decide +kernel
theorem dL_law_37 : decode cL_law 37 = .ok (.bipush 63, 2) := by decide +kernel
theorem dL_law_39 : decode cL_law 39 = .ok (.iand, 1) := by decide +kernel
theorem dL_law_40 : decode cL_law 40 = .ok (.tableswitch 1665 0 44 #[196, 269, 294, 319, 344, 369, 382, 395, 420, 469, 506, 543, 592, 653, 666, 691, 716, 741, 766, 803, 840, 920, 945, 986, 1011, 1060, 1114, 1175, 1200, 1249, 1274, 1299, 1352, 1365, 1390, 1403, 1428, 1441, 1514, 1539, 1552, 1577, 1614, 1639, 1652], 196) := by decide +kernel
theorem dL_law_236 : decode cL_law 236 = .ok (.aload_n 1, 1) := by decide +kernel
theorem dL_law_237 : decode cL_law 237 = .ok (.aload_n 0, 1) := by decide +kernel
theorem dL_law_238 : decode cL_law 238 = .ok (.iload 4, 2) := by decide +kernel
theorem dL_law_240 : decode cL_law 240 = .ok (.iconst 1, 1) := by decide +kernel
theorem dL_law_241 : decode cL_law 241 = .ok (.iadd, 1) := by decide +kernel
theorem dL_law_242 : decode cL_law 242 = .ok (.iaload, 1) := by decide +kernel
theorem dL_law_243 : decode cL_law 243 = .ok (.aload_n 0, 1) := by decide +kernel
theorem dL_law_244 : decode cL_law 244 = .ok (.iload 4, 2) := by decide +kernel
theorem dL_law_246 : decode cL_law 246 = .ok (.iconst 2, 1) := by decide +kernel
theorem dL_law_247 : decode cL_law 247 = .ok (.iadd, 1) := by decide +kernel
theorem dL_law_248 : decode cL_law 248 = .ok (.iaload, 1) := by decide +kernel
theorem dL_law_249 : decode cL_law 249 = .ok (.aload_n 0, 1) := by decide +kernel
theorem dL_law_250 : decode cL_law 250 = .ok (.iload 4, 2) := by decide +kernel
theorem dL_law_252 : decode cL_law 252 = .ok (.iconst 3, 1) := by decide +kernel
theorem dL_law_253 : decode cL_law 253 = .ok (.iadd, 1) := by decide +kernel
theorem dL_law_254 : decode cL_law 254 = .ok (.iaload, 1) := by decide +kernel
theorem dL_law_255 : decode cL_law 255 = .ok (.aload_n 0, 1) := by decide +kernel
theorem dL_law_256 : decode cL_law 256 = .ok (.iload 4, 2) := by decide +kernel
theorem dL_law_258 : decode cL_law 258 = .ok (.iconst 4, 1) := by decide +kernel
theorem dL_law_259 : decode cL_law 259 = .ok (.iadd, 1) := by decide +kernel
theorem dL_law_260 : decode cL_law 260 = .ok (.iaload, 1) := by decide +kernel
theorem dL_law_261 : decode cL_law 261 = .ok (.aload_n 0, 1) := by decide +kernel
theorem dL_law_262 : decode cL_law 262 = .ok (.iload 4, 2) := by decide +kernel
theorem dL_law_264 : decode cL_law 264 = .ok (.iconst 5, 1) := by decide +kernel
theorem dL_law_265 : decode cL_law 265 = .ok (.iadd, 1) := by decide +kernel
theorem dL_law_266 : decode cL_law 266 = .ok (.iaload, 1) := by decide +kernel
theorem dL_law_267 : decode cL_law 267 = .ok (.invokevirtual 19, 3) := by decide +kernel
theorem dL_law_270 : decode cL_law 270 = .ok (.aload_n 2, 1) := by decide +kernel
theorem dL_law_271 : decode cL_law 271 = .ok (.aload_n 0, 1) := by decide +kernel
theorem dL_law_272 : decode cL_law 272 = .ok (.iload 4, 2) := by decide +kernel
theorem dL_law_274 : decode cL_law 274 = .ok (.iconst 1, 1) := by decide +kernel
theorem dL_law_275 : decode cL_law 275 = .ok (.iadd, 1) := by decide +kernel
theorem dL_law_276 : decode cL_law 276 = .ok (.iaload, 1) := by decide +kernel
theorem dL_law_277 : decode cL_law 277 = .ok (.aload_n 0, 1) := by decide +kernel
theorem dL_law_278 : decode cL_law 278 = .ok (.iload 4, 2) := by decide +kernel
theorem dL_law_280 : decode cL_law 280 = .ok (.iconst 2, 1) := by decide +kernel
theorem dL_law_281 : decode cL_law 281 = .ok (.iadd, 1) := by decide +kernel
theorem dL_law_282 : decode cL_law 282 = .ok (.iaload, 1) := by decide +kernel
theorem dL_law_283 : decode cL_law 283 = .ok (.aload_n 0, 1) := by decide +kernel
theorem dL_law_284 : decode cL_law 284 = .ok (.iload 4, 2) := by decide +kernel
theorem dL_law_286 : decode cL_law 286 = .ok (.iconst 3, 1) := by decide +kernel
theorem dL_law_287 : decode cL_law 287 = .ok (.iadd, 1) := by decide +kernel
theorem dL_law_288 : decode cL_law 288 = .ok (.iaload, 1) := by decide +kernel
theorem dL_law_289 : decode cL_law 289 = .ok (.aload_n 0, 1) := by decide +kernel
theorem dL_law_290 : decode cL_law 290 = .ok (.iload 4, 2) := by decide +kernel
theorem dL_law_292 : decode cL_law 292 = .ok (.iconst 4, 1) := by decide +kernel
theorem dL_law_293 : decode cL_law 293 = .ok (.iadd, 1) := by decide +kernel
theorem dL_law_294 : decode cL_law 294 = .ok (.iaload, 1) := by decide +kernel
theorem dL_law_295 : decode cL_law 295 = .ok (.aload_n 0, 1) := by decide +kernel
theorem dL_law_296 : decode cL_law 296 = .ok (.iload 4, 2) := by decide +kernel
theorem dL_law_298 : decode cL_law 298 = .ok (.iconst 5, 1) := by decide +kernel
theorem dL_law_299 : decode cL_law 299 = .ok (.iadd, 1) := by decide +kernel
theorem dL_law_300 : decode cL_law 300 = .ok (.iaload, 1) := by decide +kernel
theorem dL_law_301 : decode cL_law 301 = .ok (.invokevirtual 23, 3) := by decide +kernel
theorem dL_law_304 : decode cL_law 304 = .ok (.if_icmp .eq 1401, 3) := by decide +kernel
theorem dL_law_307 : decode cL_law 307 = .ok (.iconst 0, 1) := by decide +kernel
theorem dL_law_308 : decode cL_law 308 = .ok (.ireturn, 1) := by decide +kernel
theorem dL_law_309 : decode cL_law 309 = .ok (.aload_n 1, 1) := by decide +kernel
theorem dL_law_310 : decode cL_law 310 = .ok (.aload_n 0, 1) := by decide +kernel
theorem dL_law_311 : decode cL_law 311 = .ok (.iload 4, 2) := by decide +kernel
theorem dL_law_313 : decode cL_law 313 = .ok (.iconst 1, 1) := by decide +kernel
theorem dL_law_314 : decode cL_law 314 = .ok (.iadd, 1) := by decide +kernel
theorem dL_law_315 : decode cL_law 315 = .ok (.iaload, 1) := by decide +kernel
theorem dL_law_316 : decode cL_law 316 = .ok (.invokevirtual 24, 3) := by decide +kernel
theorem dL_law_319 : decode cL_law 319 = .ok (.aload_n 2, 1) := by decide +kernel
theorem dL_law_320 : decode cL_law 320 = .ok (.aload_n 0, 1) := by decide +kernel
theorem dL_law_321 : decode cL_law 321 = .ok (.iload 4, 2) := by decide +kernel
theorem dL_law_323 : decode cL_law 323 = .ok (.iconst 1, 1) := by decide +kernel
theorem dL_law_324 : decode cL_law 324 = .ok (.iadd, 1) := by decide +kernel
theorem dL_law_325 : decode cL_law 325 = .ok (.iaload, 1) := by decide +kernel
theorem dL_law_326 : decode cL_law 326 = .ok (.invokevirtual 28, 3) := by decide +kernel
theorem dL_law_329 : decode cL_law 329 = .ok (.if_icmp .eq 1376, 3) := by decide +kernel
theorem dL_law_332 : decode cL_law 332 = .ok (.iconst 0, 1) := by decide +kernel
theorem dL_law_333 : decode cL_law 333 = .ok (.ireturn, 1) := by decide +kernel
theorem dL_law_334 : decode cL_law 334 = .ok (.aload_n 1, 1) := by decide +kernel
theorem dL_law_335 : decode cL_law 335 = .ok (.aload_n 0, 1) := by decide +kernel
theorem dL_law_336 : decode cL_law 336 = .ok (.iload 4, 2) := by decide +kernel
theorem dL_law_338 : decode cL_law 338 = .ok (.iconst 1, 1) := by decide +kernel
theorem dL_law_339 : decode cL_law 339 = .ok (.iadd, 1) := by decide +kernel
theorem dL_law_340 : decode cL_law 340 = .ok (.iaload, 1) := by decide +kernel
theorem dL_law_341 : decode cL_law 341 = .ok (.invokevirtual 29, 3) := by decide +kernel
theorem dL_law_344 : decode cL_law 344 = .ok (.aload_n 2, 1) := by decide +kernel
theorem dL_law_345 : decode cL_law 345 = .ok (.aload_n 0, 1) := by decide +kernel
theorem dL_law_346 : decode cL_law 346 = .ok (.iload 4, 2) := by decide +kernel
theorem dL_law_348 : decode cL_law 348 = .ok (.iconst 1, 1) := by decide +kernel
theorem dL_law_349 : decode cL_law 349 = .ok (.iadd, 1) := by decide +kernel
theorem dL_law_350 : decode cL_law 350 = .ok (.iaload, 1) := by decide +kernel
theorem dL_law_351 : decode cL_law 351 = .ok (.invokevirtual 32, 3) := by decide +kernel
theorem dL_law_354 : decode cL_law 354 = .ok (.if_icmp .eq 1351, 3) := by decide +kernel
theorem dL_law_357 : decode cL_law 357 = .ok (.iconst 0, 1) := by decide +kernel
theorem dL_law_358 : decode cL_law 358 = .ok (.ireturn, 1) := by decide +kernel
theorem dL_law_359 : decode cL_law 359 = .ok (.aload_n 1, 1) := by decide +kernel
theorem dL_law_360 : decode cL_law 360 = .ok (.aload_n 0, 1) := by decide +kernel
theorem dL_law_361 : decode cL_law 361 = .ok (.iload 4, 2) := by decide +kernel
theorem dL_law_363 : decode cL_law 363 = .ok (.iconst 1, 1) := by decide +kernel
theorem dL_law_364 : decode cL_law 364 = .ok (.iadd, 1) := by decide +kernel
theorem dL_law_365 : decode cL_law 365 = .ok (.iaload, 1) := by decide +kernel
theorem dL_law_366 : decode cL_law 366 = .ok (.invokevirtual 33, 3) := by decide +kernel
theorem dL_law_369 : decode cL_law 369 = .ok (.aload_n 2, 1) := by decide +kernel
theorem dL_law_370 : decode cL_law 370 = .ok (.aload_n 0, 1) := by decide +kernel
theorem dL_law_371 : decode cL_law 371 = .ok (.iload 4, 2) := by decide +kernel
theorem dL_law_373 : decode cL_law 373 = .ok (.iconst 1, 1) := by decide +kernel
theorem dL_law_374 : decode cL_law 374 = .ok (.iadd, 1) := by decide +kernel
theorem dL_law_375 : decode cL_law 375 = .ok (.iaload, 1) := by decide +kernel
theorem dL_law_376 : decode cL_law 376 = .ok (.invokevirtual 36, 3) := by decide +kernel
theorem dL_law_379 : decode cL_law 379 = .ok (.if_icmp .eq 1326, 3) := by decide +kernel
theorem dL_law_382 : decode cL_law 382 = .ok (.iconst 0, 1) := by decide +kernel
theorem dL_law_383 : decode cL_law 383 = .ok (.ireturn, 1) := by decide +kernel
theorem dL_law_384 : decode cL_law 384 = .ok (.aload_n 1, 1) := by decide +kernel
theorem dL_law_385 : decode cL_law 385 = .ok (.aload_n 0, 1) := by decide +kernel
theorem dL_law_386 : decode cL_law 386 = .ok (.iload 4, 2) := by decide +kernel
theorem dL_law_388 : decode cL_law 388 = .ok (.iconst 1, 1) := by decide +kernel
theorem dL_law_389 : decode cL_law 389 = .ok (.iadd, 1) := by decide +kernel
theorem dL_law_390 : decode cL_law 390 = .ok (.iaload, 1) := by decide +kernel
theorem dL_law_391 : decode cL_law 391 = .ok (.invokevirtual 37, 3) := by decide +kernel
theorem dL_law_394 : decode cL_law 394 = .ok (.aload_n 2, 1) := by decide +kernel
theorem dL_law_395 : decode cL_law 395 = .ok (.aload_n 0, 1) := by decide +kernel
theorem dL_law_396 : decode cL_law 396 = .ok (.iload 4, 2) := by decide +kernel
theorem dL_law_398 : decode cL_law 398 = .ok (.iconst 1, 1) := by decide +kernel
theorem dL_law_399 : decode cL_law 399 = .ok (.iadd, 1) := by decide +kernel
theorem dL_law_400 : decode cL_law 400 = .ok (.iaload, 1) := by decide +kernel
theorem dL_law_401 : decode cL_law 401 = .ok (.invokevirtual 40, 3) := by decide +kernel
theorem dL_law_404 : decode cL_law 404 = .ok (.if_icmp .eq 1301, 3) := by decide +kernel
theorem dL_law_407 : decode cL_law 407 = .ok (.iconst 0, 1) := by decide +kernel
theorem dL_law_408 : decode cL_law 408 = .ok (.ireturn, 1) := by decide +kernel
theorem dL_law_409 : decode cL_law 409 = .ok (.aload_n 1, 1) := by decide +kernel
theorem dL_law_410 : decode cL_law 410 = .ok (.invokevirtual 41, 3) := by decide +kernel
theorem dL_law_413 : decode cL_law 413 = .ok (.aload_n 2, 1) := by decide +kernel
theorem dL_law_414 : decode cL_law 414 = .ok (.invokevirtual 45, 3) := by decide +kernel
theorem dL_law_417 : decode cL_law 417 = .ok (.if_icmp .eq 1288, 3) := by decide +kernel
theorem dL_law_420 : decode cL_law 420 = .ok (.iconst 0, 1) := by decide +kernel
theorem dL_law_421 : decode cL_law 421 = .ok (.ireturn, 1) := by decide +kernel
theorem dL_law_422 : decode cL_law 422 = .ok (.aload_n 1, 1) := by decide +kernel
theorem dL_law_423 : decode cL_law 423 = .ok (.invokevirtual 46, 3) := by decide +kernel
theorem dL_law_426 : decode cL_law 426 = .ok (.aload_n 2, 1) := by decide +kernel
theorem dL_law_427 : decode cL_law 427 = .ok (.invokevirtual 49, 3) := by decide +kernel
theorem dL_law_430 : decode cL_law 430 = .ok (.if_icmp .eq 1275, 3) := by decide +kernel
theorem dL_law_433 : decode cL_law 433 = .ok (.iconst 0, 1) := by decide +kernel
theorem dL_law_434 : decode cL_law 434 = .ok (.ireturn, 1) := by decide +kernel
theorem dL_law_435 : decode cL_law 435 = .ok (.aload_n 1, 1) := by decide +kernel
theorem dL_law_436 : decode cL_law 436 = .ok (.aload_n 0, 1) := by decide +kernel
theorem dL_law_437 : decode cL_law 437 = .ok (.iload 4, 2) := by decide +kernel
theorem dL_law_439 : decode cL_law 439 = .ok (.iconst 1, 1) := by decide +kernel
theorem dL_law_440 : decode cL_law 440 = .ok (.iadd, 1) := by decide +kernel
theorem dL_law_441 : decode cL_law 441 = .ok (.iaload, 1) := by decide +kernel
theorem dL_law_442 : decode cL_law 442 = .ok (.invokevirtual 50, 3) := by decide +kernel
theorem dL_law_445 : decode cL_law 445 = .ok (.aload_n 2, 1) := by decide +kernel
theorem dL_law_446 : decode cL_law 446 = .ok (.aload_n 0, 1) := by decide +kernel
theorem dL_law_447 : decode cL_law 447 = .ok (.iload 4, 2) := by decide +kernel
theorem dL_law_449 : decode cL_law 449 = .ok (.iconst 1, 1) := by decide +kernel
theorem dL_law_450 : decode cL_law 450 = .ok (.iadd, 1) := by decide +kernel
theorem dL_law_451 : decode cL_law 451 = .ok (.iaload, 1) := by decide +kernel
theorem dL_law_452 : decode cL_law 452 = .ok (.invokevirtual 53, 3) := by decide +kernel
theorem dL_law_455 : decode cL_law 455 = .ok (.if_icmp .eq 1250, 3) := by decide +kernel
theorem dL_law_458 : decode cL_law 458 = .ok (.iconst 0, 1) := by decide +kernel
theorem dL_law_459 : decode cL_law 459 = .ok (.ireturn, 1) := by decide +kernel
theorem dL_law_460 : decode cL_law 460 = .ok (.aload_n 1, 1) := by decide +kernel
theorem dL_law_461 : decode cL_law 461 = .ok (.aload_n 0, 1) := by decide +kernel
theorem dL_law_462 : decode cL_law 462 = .ok (.iload 4, 2) := by decide +kernel
theorem dL_law_464 : decode cL_law 464 = .ok (.iconst 1, 1) := by decide +kernel
theorem dL_law_465 : decode cL_law 465 = .ok (.iadd, 1) := by decide +kernel
theorem dL_law_466 : decode cL_law 466 = .ok (.iaload, 1) := by decide +kernel
theorem dL_law_467 : decode cL_law 467 = .ok (.aload_n 0, 1) := by decide +kernel
theorem dL_law_468 : decode cL_law 468 = .ok (.iload 4, 2) := by decide +kernel
theorem dL_law_470 : decode cL_law 470 = .ok (.iconst 2, 1) := by decide +kernel
theorem dL_law_471 : decode cL_law 471 = .ok (.iadd, 1) := by decide +kernel
theorem dL_law_472 : decode cL_law 472 = .ok (.iaload, 1) := by decide +kernel
theorem dL_law_473 : decode cL_law 473 = .ok (.aload_n 0, 1) := by decide +kernel
theorem dL_law_474 : decode cL_law 474 = .ok (.iload 4, 2) := by decide +kernel
theorem dL_law_476 : decode cL_law 476 = .ok (.iconst 3, 1) := by decide +kernel
theorem dL_law_477 : decode cL_law 477 = .ok (.iadd, 1) := by decide +kernel
theorem dL_law_478 : decode cL_law 478 = .ok (.iaload, 1) := by decide +kernel
theorem dL_law_479 : decode cL_law 479 = .ok (.invokevirtual 54, 3) := by decide +kernel
theorem dL_law_482 : decode cL_law 482 = .ok (.aload_n 2, 1) := by decide +kernel
theorem dL_law_483 : decode cL_law 483 = .ok (.aload_n 0, 1) := by decide +kernel
theorem dL_law_484 : decode cL_law 484 = .ok (.iload 4, 2) := by decide +kernel
theorem dL_law_486 : decode cL_law 486 = .ok (.iconst 1, 1) := by decide +kernel
theorem dL_law_487 : decode cL_law 487 = .ok (.iadd, 1) := by decide +kernel
theorem dL_law_488 : decode cL_law 488 = .ok (.iaload, 1) := by decide +kernel
theorem dL_law_489 : decode cL_law 489 = .ok (.aload_n 0, 1) := by decide +kernel
theorem dL_law_490 : decode cL_law 490 = .ok (.iload 4, 2) := by decide +kernel
theorem dL_law_492 : decode cL_law 492 = .ok (.iconst 2, 1) := by decide +kernel
theorem dL_law_493 : decode cL_law 493 = .ok (.iadd, 1) := by decide +kernel
theorem dL_law_494 : decode cL_law 494 = .ok (.iaload, 1) := by decide +kernel
theorem dL_law_495 : decode cL_law 495 = .ok (.aload_n 0, 1) := by decide +kernel
theorem dL_law_496 : decode cL_law 496 = .ok (.iload 4, 2) := by decide +kernel
theorem dL_law_498 : decode cL_law 498 = .ok (.iconst 3, 1) := by decide +kernel
theorem dL_law_499 : decode cL_law 499 = .ok (.iadd, 1) := by decide +kernel
theorem dL_law_500 : decode cL_law 500 = .ok (.iaload, 1) := by decide +kernel
theorem dL_law_501 : decode cL_law 501 = .ok (.invokevirtual 57, 3) := by decide +kernel
theorem dL_law_504 : decode cL_law 504 = .ok (.if_icmp .eq 1201, 3) := by decide +kernel
theorem dL_law_507 : decode cL_law 507 = .ok (.iconst 0, 1) := by decide +kernel
theorem dL_law_508 : decode cL_law 508 = .ok (.ireturn, 1) := by decide +kernel
theorem dL_law_509 : decode cL_law 509 = .ok (.aload_n 1, 1) := by decide +kernel
theorem dL_law_510 : decode cL_law 510 = .ok (.aload_n 0, 1) := by decide +kernel
theorem dL_law_511 : decode cL_law 511 = .ok (.iload 4, 2) := by decide +kernel
theorem dL_law_513 : decode cL_law 513 = .ok (.iconst 1, 1) := by decide +kernel
theorem dL_law_514 : decode cL_law 514 = .ok (.iadd, 1) := by decide +kernel
theorem dL_law_515 : decode cL_law 515 = .ok (.iaload, 1) := by decide +kernel
theorem dL_law_516 : decode cL_law 516 = .ok (.aload_n 0, 1) := by decide +kernel
theorem dL_law_517 : decode cL_law 517 = .ok (.iload 4, 2) := by decide +kernel
theorem dL_law_519 : decode cL_law 519 = .ok (.iconst 2, 1) := by decide +kernel
theorem dL_law_520 : decode cL_law 520 = .ok (.iadd, 1) := by decide +kernel
theorem dL_law_521 : decode cL_law 521 = .ok (.iaload, 1) := by decide +kernel
theorem dL_law_522 : decode cL_law 522 = .ok (.invokevirtual 58, 3) := by decide +kernel
theorem dL_law_525 : decode cL_law 525 = .ok (.aload_n 2, 1) := by decide +kernel
theorem dL_law_526 : decode cL_law 526 = .ok (.aload_n 0, 1) := by decide +kernel
theorem dL_law_527 : decode cL_law 527 = .ok (.iload 4, 2) := by decide +kernel
theorem dL_law_529 : decode cL_law 529 = .ok (.iconst 1, 1) := by decide +kernel
theorem dL_law_530 : decode cL_law 530 = .ok (.iadd, 1) := by decide +kernel
theorem dL_law_531 : decode cL_law 531 = .ok (.iaload, 1) := by decide +kernel
theorem dL_law_532 : decode cL_law 532 = .ok (.aload_n 0, 1) := by decide +kernel
theorem dL_law_533 : decode cL_law 533 = .ok (.iload 4, 2) := by decide +kernel
theorem dL_law_535 : decode cL_law 535 = .ok (.iconst 2, 1) := by decide +kernel
theorem dL_law_536 : decode cL_law 536 = .ok (.iadd, 1) := by decide +kernel
theorem dL_law_537 : decode cL_law 537 = .ok (.iaload, 1) := by decide +kernel
theorem dL_law_538 : decode cL_law 538 = .ok (.invokevirtual 62, 3) := by decide +kernel
theorem dL_law_541 : decode cL_law 541 = .ok (.if_icmp .eq 1164, 3) := by decide +kernel
theorem dL_law_544 : decode cL_law 544 = .ok (.iconst 0, 1) := by decide +kernel
theorem dL_law_545 : decode cL_law 545 = .ok (.ireturn, 1) := by decide +kernel
theorem dL_law_546 : decode cL_law 546 = .ok (.aload_n 1, 1) := by decide +kernel
theorem dL_law_547 : decode cL_law 547 = .ok (.aload_n 0, 1) := by decide +kernel
theorem dL_law_548 : decode cL_law 548 = .ok (.iload 4, 2) := by decide +kernel
theorem dL_law_550 : decode cL_law 550 = .ok (.iconst 1, 1) := by decide +kernel
theorem dL_law_551 : decode cL_law 551 = .ok (.iadd, 1) := by decide +kernel
theorem dL_law_552 : decode cL_law 552 = .ok (.iaload, 1) := by decide +kernel
theorem dL_law_553 : decode cL_law 553 = .ok (.aload_n 0, 1) := by decide +kernel
theorem dL_law_554 : decode cL_law 554 = .ok (.iload 4, 2) := by decide +kernel
theorem dL_law_556 : decode cL_law 556 = .ok (.iconst 2, 1) := by decide +kernel
theorem dL_law_557 : decode cL_law 557 = .ok (.iadd, 1) := by decide +kernel
theorem dL_law_558 : decode cL_law 558 = .ok (.iaload, 1) := by decide +kernel
theorem dL_law_559 : decode cL_law 559 = .ok (.invokevirtual 63, 3) := by decide +kernel
theorem dL_law_562 : decode cL_law 562 = .ok (.aload_n 2, 1) := by decide +kernel
theorem dL_law_563 : decode cL_law 563 = .ok (.aload_n 0, 1) := by decide +kernel
theorem dL_law_564 : decode cL_law 564 = .ok (.iload 4, 2) := by decide +kernel
theorem dL_law_566 : decode cL_law 566 = .ok (.iconst 1, 1) := by decide +kernel
theorem dL_law_567 : decode cL_law 567 = .ok (.iadd, 1) := by decide +kernel
theorem dL_law_568 : decode cL_law 568 = .ok (.iaload, 1) := by decide +kernel
theorem dL_law_569 : decode cL_law 569 = .ok (.aload_n 0, 1) := by decide +kernel
theorem dL_law_570 : decode cL_law 570 = .ok (.iload 4, 2) := by decide +kernel
theorem dL_law_572 : decode cL_law 572 = .ok (.iconst 2, 1) := by decide +kernel
theorem dL_law_573 : decode cL_law 573 = .ok (.iadd, 1) := by decide +kernel
theorem dL_law_574 : decode cL_law 574 = .ok (.iaload, 1) := by decide +kernel
theorem dL_law_575 : decode cL_law 575 = .ok (.invokevirtual 66, 3) := by decide +kernel
theorem dL_law_578 : decode cL_law 578 = .ok (.if_icmp .eq 1127, 3) := by decide +kernel
theorem dL_law_581 : decode cL_law 581 = .ok (.iconst 0, 1) := by decide +kernel
theorem dL_law_582 : decode cL_law 582 = .ok (.ireturn, 1) := by decide +kernel
theorem dL_law_583 : decode cL_law 583 = .ok (.aload_n 1, 1) := by decide +kernel
theorem dL_law_584 : decode cL_law 584 = .ok (.aload_n 0, 1) := by decide +kernel
theorem dL_law_585 : decode cL_law 585 = .ok (.iload 4, 2) := by decide +kernel
theorem dL_law_587 : decode cL_law 587 = .ok (.iconst 1, 1) := by decide +kernel
theorem dL_law_588 : decode cL_law 588 = .ok (.iadd, 1) := by decide +kernel
theorem dL_law_589 : decode cL_law 589 = .ok (.iaload, 1) := by decide +kernel
theorem dL_law_590 : decode cL_law 590 = .ok (.aload_n 0, 1) := by decide +kernel
theorem dL_law_591 : decode cL_law 591 = .ok (.iload 4, 2) := by decide +kernel
theorem dL_law_593 : decode cL_law 593 = .ok (.iconst 2, 1) := by decide +kernel
theorem dL_law_594 : decode cL_law 594 = .ok (.iadd, 1) := by decide +kernel
theorem dL_law_595 : decode cL_law 595 = .ok (.iaload, 1) := by decide +kernel
theorem dL_law_596 : decode cL_law 596 = .ok (.aload_n 0, 1) := by decide +kernel
theorem dL_law_597 : decode cL_law 597 = .ok (.iload 4, 2) := by decide +kernel
theorem dL_law_599 : decode cL_law 599 = .ok (.iconst 3, 1) := by decide +kernel
theorem dL_law_600 : decode cL_law 600 = .ok (.iadd, 1) := by decide +kernel
theorem dL_law_601 : decode cL_law 601 = .ok (.iaload, 1) := by decide +kernel
theorem dL_law_602 : decode cL_law 602 = .ok (.invokevirtual 67, 3) := by decide +kernel
theorem dL_law_605 : decode cL_law 605 = .ok (.aload_n 2, 1) := by decide +kernel
theorem dL_law_606 : decode cL_law 606 = .ok (.aload_n 0, 1) := by decide +kernel
theorem dL_law_607 : decode cL_law 607 = .ok (.iload 4, 2) := by decide +kernel
theorem dL_law_609 : decode cL_law 609 = .ok (.iconst 1, 1) := by decide +kernel
theorem dL_law_610 : decode cL_law 610 = .ok (.iadd, 1) := by decide +kernel
theorem dL_law_611 : decode cL_law 611 = .ok (.iaload, 1) := by decide +kernel
theorem dL_law_612 : decode cL_law 612 = .ok (.aload_n 0, 1) := by decide +kernel
theorem dL_law_613 : decode cL_law 613 = .ok (.iload 4, 2) := by decide +kernel
theorem dL_law_615 : decode cL_law 615 = .ok (.iconst 2, 1) := by decide +kernel
theorem dL_law_616 : decode cL_law 616 = .ok (.iadd, 1) := by decide +kernel
theorem dL_law_617 : decode cL_law 617 = .ok (.iaload, 1) := by decide +kernel
theorem dL_law_618 : decode cL_law 618 = .ok (.aload_n 0, 1) := by decide +kernel
theorem dL_law_619 : decode cL_law 619 = .ok (.iload 4, 2) := by decide +kernel
theorem dL_law_621 : decode cL_law 621 = .ok (.iconst 3, 1) := by decide +kernel
theorem dL_law_622 : decode cL_law 622 = .ok (.iadd, 1) := by decide +kernel
theorem dL_law_623 : decode cL_law 623 = .ok (.iaload, 1) := by decide +kernel
theorem dL_law_624 : decode cL_law 624 = .ok (.invokevirtual 70, 3) := by decide +kernel
theorem dL_law_627 : decode cL_law 627 = .ok (.if_icmp .eq 1078, 3) := by decide +kernel
theorem dL_law_630 : decode cL_law 630 = .ok (.iconst 0, 1) := by decide +kernel
theorem dL_law_631 : decode cL_law 631 = .ok (.ireturn, 1) := by decide +kernel
theorem dL_law_632 : decode cL_law 632 = .ok (.aload_n 1, 1) := by decide +kernel
theorem dL_law_633 : decode cL_law 633 = .ok (.aload_n 0, 1) := by decide +kernel
theorem dL_law_634 : decode cL_law 634 = .ok (.iload 4, 2) := by decide +kernel
theorem dL_law_636 : decode cL_law 636 = .ok (.iconst 1, 1) := by decide +kernel
theorem dL_law_637 : decode cL_law 637 = .ok (.iadd, 1) := by decide +kernel
theorem dL_law_638 : decode cL_law 638 = .ok (.iaload, 1) := by decide +kernel
theorem dL_law_639 : decode cL_law 639 = .ok (.aload_n 0, 1) := by decide +kernel
theorem dL_law_640 : decode cL_law 640 = .ok (.iload 4, 2) := by decide +kernel
theorem dL_law_642 : decode cL_law 642 = .ok (.iconst 2, 1) := by decide +kernel
theorem dL_law_643 : decode cL_law 643 = .ok (.iadd, 1) := by decide +kernel
theorem dL_law_644 : decode cL_law 644 = .ok (.iaload, 1) := by decide +kernel
theorem dL_law_645 : decode cL_law 645 = .ok (.aload_n 0, 1) := by decide +kernel
theorem dL_law_646 : decode cL_law 646 = .ok (.iload 4, 2) := by decide +kernel
theorem dL_law_648 : decode cL_law 648 = .ok (.iconst 3, 1) := by decide +kernel
theorem dL_law_649 : decode cL_law 649 = .ok (.iadd, 1) := by decide +kernel
theorem dL_law_650 : decode cL_law 650 = .ok (.iaload, 1) := by decide +kernel
theorem dL_law_651 : decode cL_law 651 = .ok (.aload_n 0, 1) := by decide +kernel
theorem dL_law_652 : decode cL_law 652 = .ok (.iload 4, 2) := by decide +kernel
theorem dL_law_654 : decode cL_law 654 = .ok (.iconst 4, 1) := by decide +kernel
theorem dL_law_655 : decode cL_law 655 = .ok (.iadd, 1) := by decide +kernel
theorem dL_law_656 : decode cL_law 656 = .ok (.iaload, 1) := by decide +kernel
theorem dL_law_657 : decode cL_law 657 = .ok (.invokevirtual 71, 3) := by decide +kernel
theorem dL_law_660 : decode cL_law 660 = .ok (.aload_n 2, 1) := by decide +kernel
theorem dL_law_661 : decode cL_law 661 = .ok (.aload_n 0, 1) := by decide +kernel
theorem dL_law_662 : decode cL_law 662 = .ok (.iload 4, 2) := by decide +kernel
theorem dL_law_664 : decode cL_law 664 = .ok (.iconst 1, 1) := by decide +kernel
theorem dL_law_665 : decode cL_law 665 = .ok (.iadd, 1) := by decide +kernel
theorem dL_law_666 : decode cL_law 666 = .ok (.iaload, 1) := by decide +kernel
theorem dL_law_667 : decode cL_law 667 = .ok (.aload_n 0, 1) := by decide +kernel
theorem dL_law_668 : decode cL_law 668 = .ok (.iload 4, 2) := by decide +kernel
theorem dL_law_670 : decode cL_law 670 = .ok (.iconst 2, 1) := by decide +kernel
theorem dL_law_671 : decode cL_law 671 = .ok (.iadd, 1) := by decide +kernel
theorem dL_law_672 : decode cL_law 672 = .ok (.iaload, 1) := by decide +kernel
theorem dL_law_673 : decode cL_law 673 = .ok (.aload_n 0, 1) := by decide +kernel
theorem dL_law_674 : decode cL_law 674 = .ok (.iload 4, 2) := by decide +kernel
theorem dL_law_676 : decode cL_law 676 = .ok (.iconst 3, 1) := by decide +kernel
theorem dL_law_677 : decode cL_law 677 = .ok (.iadd, 1) := by decide +kernel
theorem dL_law_678 : decode cL_law 678 = .ok (.iaload, 1) := by decide +kernel
theorem dL_law_679 : decode cL_law 679 = .ok (.aload_n 0, 1) := by decide +kernel
theorem dL_law_680 : decode cL_law 680 = .ok (.iload 4, 2) := by decide +kernel
theorem dL_law_682 : decode cL_law 682 = .ok (.iconst 4, 1) := by decide +kernel
theorem dL_law_683 : decode cL_law 683 = .ok (.iadd, 1) := by decide +kernel
theorem dL_law_684 : decode cL_law 684 = .ok (.iaload, 1) := by decide +kernel
theorem dL_law_685 : decode cL_law 685 = .ok (.invokevirtual 75, 3) := by decide +kernel
theorem dL_law_688 : decode cL_law 688 = .ok (.if_icmp .eq 1017, 3) := by decide +kernel
theorem dL_law_691 : decode cL_law 691 = .ok (.iconst 0, 1) := by decide +kernel
theorem dL_law_692 : decode cL_law 692 = .ok (.ireturn, 1) := by decide +kernel
theorem dL_law_693 : decode cL_law 693 = .ok (.aload_n 1, 1) := by decide +kernel
theorem dL_law_694 : decode cL_law 694 = .ok (.invokevirtual 76, 3) := by decide +kernel
theorem dL_law_697 : decode cL_law 697 = .ok (.aload_n 2, 1) := by decide +kernel
theorem dL_law_698 : decode cL_law 698 = .ok (.invokevirtual 79, 3) := by decide +kernel
theorem dL_law_701 : decode cL_law 701 = .ok (.if_icmp .eq 1004, 3) := by decide +kernel
theorem dL_law_704 : decode cL_law 704 = .ok (.iconst 0, 1) := by decide +kernel
theorem dL_law_705 : decode cL_law 705 = .ok (.ireturn, 1) := by decide +kernel
theorem dL_law_706 : decode cL_law 706 = .ok (.aload_n 1, 1) := by decide +kernel
theorem dL_law_707 : decode cL_law 707 = .ok (.aload_n 0, 1) := by decide +kernel
theorem dL_law_708 : decode cL_law 708 = .ok (.iload 4, 2) := by decide +kernel
theorem dL_law_710 : decode cL_law 710 = .ok (.iconst 1, 1) := by decide +kernel
theorem dL_law_711 : decode cL_law 711 = .ok (.iadd, 1) := by decide +kernel
theorem dL_law_712 : decode cL_law 712 = .ok (.iaload, 1) := by decide +kernel
theorem dL_law_713 : decode cL_law 713 = .ok (.invokevirtual 80, 3) := by decide +kernel
theorem dL_law_716 : decode cL_law 716 = .ok (.aload_n 2, 1) := by decide +kernel
theorem dL_law_717 : decode cL_law 717 = .ok (.aload_n 0, 1) := by decide +kernel
theorem dL_law_718 : decode cL_law 718 = .ok (.iload 4, 2) := by decide +kernel
theorem dL_law_720 : decode cL_law 720 = .ok (.iconst 1, 1) := by decide +kernel
theorem dL_law_721 : decode cL_law 721 = .ok (.iadd, 1) := by decide +kernel
theorem dL_law_722 : decode cL_law 722 = .ok (.iaload, 1) := by decide +kernel
theorem dL_law_723 : decode cL_law 723 = .ok (.invokevirtual 83, 3) := by decide +kernel
theorem dL_law_726 : decode cL_law 726 = .ok (.if_icmp .eq 979, 3) := by decide +kernel
theorem dL_law_729 : decode cL_law 729 = .ok (.iconst 0, 1) := by decide +kernel
theorem dL_law_730 : decode cL_law 730 = .ok (.ireturn, 1) := by decide +kernel
theorem dL_law_731 : decode cL_law 731 = .ok (.aload_n 1, 1) := by decide +kernel
theorem dL_law_732 : decode cL_law 732 = .ok (.aload_n 0, 1) := by decide +kernel
theorem dL_law_733 : decode cL_law 733 = .ok (.iload 4, 2) := by decide +kernel
theorem dL_law_735 : decode cL_law 735 = .ok (.iconst 1, 1) := by decide +kernel
theorem dL_law_736 : decode cL_law 736 = .ok (.iadd, 1) := by decide +kernel
theorem dL_law_737 : decode cL_law 737 = .ok (.iaload, 1) := by decide +kernel
theorem dL_law_738 : decode cL_law 738 = .ok (.invokevirtual 84, 3) := by decide +kernel
theorem dL_law_741 : decode cL_law 741 = .ok (.aload_n 2, 1) := by decide +kernel
theorem dL_law_742 : decode cL_law 742 = .ok (.aload_n 0, 1) := by decide +kernel
theorem dL_law_743 : decode cL_law 743 = .ok (.iload 4, 2) := by decide +kernel
theorem dL_law_745 : decode cL_law 745 = .ok (.iconst 1, 1) := by decide +kernel
theorem dL_law_746 : decode cL_law 746 = .ok (.iadd, 1) := by decide +kernel
theorem dL_law_747 : decode cL_law 747 = .ok (.iaload, 1) := by decide +kernel
theorem dL_law_748 : decode cL_law 748 = .ok (.invokevirtual 87, 3) := by decide +kernel
theorem dL_law_751 : decode cL_law 751 = .ok (.if_icmp .eq 954, 3) := by decide +kernel
theorem dL_law_754 : decode cL_law 754 = .ok (.iconst 0, 1) := by decide +kernel
theorem dL_law_755 : decode cL_law 755 = .ok (.ireturn, 1) := by decide +kernel
theorem dL_law_756 : decode cL_law 756 = .ok (.aload_n 1, 1) := by decide +kernel
theorem dL_law_757 : decode cL_law 757 = .ok (.aload_n 0, 1) := by decide +kernel
theorem dL_law_758 : decode cL_law 758 = .ok (.iload 4, 2) := by decide +kernel
theorem dL_law_760 : decode cL_law 760 = .ok (.iconst 1, 1) := by decide +kernel
theorem dL_law_761 : decode cL_law 761 = .ok (.iadd, 1) := by decide +kernel
theorem dL_law_762 : decode cL_law 762 = .ok (.iaload, 1) := by decide +kernel
theorem dL_law_763 : decode cL_law 763 = .ok (.invokevirtual 88, 3) := by decide +kernel
theorem dL_law_766 : decode cL_law 766 = .ok (.aload_n 2, 1) := by decide +kernel
theorem dL_law_767 : decode cL_law 767 = .ok (.aload_n 0, 1) := by decide +kernel
theorem dL_law_768 : decode cL_law 768 = .ok (.iload 4, 2) := by decide +kernel
theorem dL_law_770 : decode cL_law 770 = .ok (.iconst 1, 1) := by decide +kernel
theorem dL_law_771 : decode cL_law 771 = .ok (.iadd, 1) := by decide +kernel
theorem dL_law_772 : decode cL_law 772 = .ok (.iaload, 1) := by decide +kernel
theorem dL_law_773 : decode cL_law 773 = .ok (.invokevirtual 91, 3) := by decide +kernel
theorem dL_law_776 : decode cL_law 776 = .ok (.if_icmp .eq 929, 3) := by decide +kernel
theorem dL_law_779 : decode cL_law 779 = .ok (.iconst 0, 1) := by decide +kernel
theorem dL_law_780 : decode cL_law 780 = .ok (.ireturn, 1) := by decide +kernel
theorem dL_law_781 : decode cL_law 781 = .ok (.aload_n 1, 1) := by decide +kernel
theorem dL_law_782 : decode cL_law 782 = .ok (.aload_n 0, 1) := by decide +kernel
theorem dL_law_783 : decode cL_law 783 = .ok (.iload 4, 2) := by decide +kernel
theorem dL_law_785 : decode cL_law 785 = .ok (.iconst 1, 1) := by decide +kernel
theorem dL_law_786 : decode cL_law 786 = .ok (.iadd, 1) := by decide +kernel
theorem dL_law_787 : decode cL_law 787 = .ok (.iaload, 1) := by decide +kernel
theorem dL_law_788 : decode cL_law 788 = .ok (.invokevirtual 92, 3) := by decide +kernel
theorem dL_law_791 : decode cL_law 791 = .ok (.aload_n 2, 1) := by decide +kernel
theorem dL_law_792 : decode cL_law 792 = .ok (.aload_n 0, 1) := by decide +kernel
theorem dL_law_793 : decode cL_law 793 = .ok (.iload 4, 2) := by decide +kernel
theorem dL_law_795 : decode cL_law 795 = .ok (.iconst 1, 1) := by decide +kernel
theorem dL_law_796 : decode cL_law 796 = .ok (.iadd, 1) := by decide +kernel
theorem dL_law_797 : decode cL_law 797 = .ok (.iaload, 1) := by decide +kernel
theorem dL_law_798 : decode cL_law 798 = .ok (.invokevirtual 95, 3) := by decide +kernel
theorem dL_law_801 : decode cL_law 801 = .ok (.if_icmp .eq 904, 3) := by decide +kernel
theorem dL_law_804 : decode cL_law 804 = .ok (.iconst 0, 1) := by decide +kernel
theorem dL_law_805 : decode cL_law 805 = .ok (.ireturn, 1) := by decide +kernel
theorem dL_law_806 : decode cL_law 806 = .ok (.aload_n 1, 1) := by decide +kernel
theorem dL_law_807 : decode cL_law 807 = .ok (.aload_n 0, 1) := by decide +kernel
theorem dL_law_808 : decode cL_law 808 = .ok (.iload 4, 2) := by decide +kernel
theorem dL_law_810 : decode cL_law 810 = .ok (.iconst 1, 1) := by decide +kernel
theorem dL_law_811 : decode cL_law 811 = .ok (.iadd, 1) := by decide +kernel
theorem dL_law_812 : decode cL_law 812 = .ok (.iaload, 1) := by decide +kernel
theorem dL_law_813 : decode cL_law 813 = .ok (.aload_n 0, 1) := by decide +kernel
theorem dL_law_814 : decode cL_law 814 = .ok (.iload 4, 2) := by decide +kernel
theorem dL_law_816 : decode cL_law 816 = .ok (.iconst 2, 1) := by decide +kernel
theorem dL_law_817 : decode cL_law 817 = .ok (.iadd, 1) := by decide +kernel
theorem dL_law_818 : decode cL_law 818 = .ok (.iaload, 1) := by decide +kernel
theorem dL_law_819 : decode cL_law 819 = .ok (.invokevirtual 96, 3) := by decide +kernel
theorem dL_law_822 : decode cL_law 822 = .ok (.aload_n 2, 1) := by decide +kernel
theorem dL_law_823 : decode cL_law 823 = .ok (.aload_n 0, 1) := by decide +kernel
theorem dL_law_824 : decode cL_law 824 = .ok (.iload 4, 2) := by decide +kernel
theorem dL_law_826 : decode cL_law 826 = .ok (.iconst 1, 1) := by decide +kernel
theorem dL_law_827 : decode cL_law 827 = .ok (.iadd, 1) := by decide +kernel
theorem dL_law_828 : decode cL_law 828 = .ok (.iaload, 1) := by decide +kernel
theorem dL_law_829 : decode cL_law 829 = .ok (.aload_n 0, 1) := by decide +kernel
theorem dL_law_830 : decode cL_law 830 = .ok (.iload 4, 2) := by decide +kernel
theorem dL_law_832 : decode cL_law 832 = .ok (.iconst 2, 1) := by decide +kernel
theorem dL_law_833 : decode cL_law 833 = .ok (.iadd, 1) := by decide +kernel
theorem dL_law_834 : decode cL_law 834 = .ok (.iaload, 1) := by decide +kernel
theorem dL_law_835 : decode cL_law 835 = .ok (.invokevirtual 99, 3) := by decide +kernel
theorem dL_law_838 : decode cL_law 838 = .ok (.if_icmp .eq 867, 3) := by decide +kernel
theorem dL_law_841 : decode cL_law 841 = .ok (.iconst 0, 1) := by decide +kernel
theorem dL_law_842 : decode cL_law 842 = .ok (.ireturn, 1) := by decide +kernel
theorem dL_law_843 : decode cL_law 843 = .ok (.aload_n 1, 1) := by decide +kernel
theorem dL_law_844 : decode cL_law 844 = .ok (.aload_n 0, 1) := by decide +kernel
theorem dL_law_845 : decode cL_law 845 = .ok (.iload 4, 2) := by decide +kernel
theorem dL_law_847 : decode cL_law 847 = .ok (.iconst 1, 1) := by decide +kernel
theorem dL_law_848 : decode cL_law 848 = .ok (.iadd, 1) := by decide +kernel
theorem dL_law_849 : decode cL_law 849 = .ok (.iaload, 1) := by decide +kernel
theorem dL_law_850 : decode cL_law 850 = .ok (.aload_n 0, 1) := by decide +kernel
theorem dL_law_851 : decode cL_law 851 = .ok (.iload 4, 2) := by decide +kernel
theorem dL_law_853 : decode cL_law 853 = .ok (.iconst 2, 1) := by decide +kernel
theorem dL_law_854 : decode cL_law 854 = .ok (.iadd, 1) := by decide +kernel
theorem dL_law_855 : decode cL_law 855 = .ok (.iaload, 1) := by decide +kernel
theorem dL_law_856 : decode cL_law 856 = .ok (.invokevirtual 100, 3) := by decide +kernel
theorem dL_law_859 : decode cL_law 859 = .ok (.aload_n 2, 1) := by decide +kernel
theorem dL_law_860 : decode cL_law 860 = .ok (.aload_n 0, 1) := by decide +kernel
theorem dL_law_861 : decode cL_law 861 = .ok (.iload 4, 2) := by decide +kernel
theorem dL_law_863 : decode cL_law 863 = .ok (.iconst 1, 1) := by decide +kernel
theorem dL_law_864 : decode cL_law 864 = .ok (.iadd, 1) := by decide +kernel
theorem dL_law_865 : decode cL_law 865 = .ok (.iaload, 1) := by decide +kernel
theorem dL_law_866 : decode cL_law 866 = .ok (.aload_n 0, 1) := by decide +kernel
theorem dL_law_867 : decode cL_law 867 = .ok (.iload 4, 2) := by decide +kernel
theorem dL_law_869 : decode cL_law 869 = .ok (.iconst 2, 1) := by decide +kernel
theorem dL_law_870 : decode cL_law 870 = .ok (.iadd, 1) := by decide +kernel
theorem dL_law_871 : decode cL_law 871 = .ok (.iaload, 1) := by decide +kernel
theorem dL_law_872 : decode cL_law 872 = .ok (.invokevirtual 103, 3) := by decide +kernel
theorem dL_law_875 : decode cL_law 875 = .ok (.if_icmp .eq 830, 3) := by decide +kernel
theorem dL_law_878 : decode cL_law 878 = .ok (.iconst 0, 1) := by decide +kernel
theorem dL_law_879 : decode cL_law 879 = .ok (.ireturn, 1) := by decide +kernel
theorem dL_law_880 : decode cL_law 880 = .ok (.aload_n 1, 1) := by decide +kernel
theorem dL_law_881 : decode cL_law 881 = .ok (.aload_n 0, 1) := by decide +kernel
theorem dL_law_882 : decode cL_law 882 = .ok (.iload 4, 2) := by decide +kernel
theorem dL_law_884 : decode cL_law 884 = .ok (.iconst 1, 1) := by decide +kernel
theorem dL_law_885 : decode cL_law 885 = .ok (.iadd, 1) := by decide +kernel
theorem dL_law_886 : decode cL_law 886 = .ok (.iaload, 1) := by decide +kernel
theorem dL_law_887 : decode cL_law 887 = .ok (.aload_n 0, 1) := by decide +kernel
theorem dL_law_888 : decode cL_law 888 = .ok (.iload 4, 2) := by decide +kernel
theorem dL_law_890 : decode cL_law 890 = .ok (.iconst 2, 1) := by decide +kernel
theorem dL_law_891 : decode cL_law 891 = .ok (.iadd, 1) := by decide +kernel
theorem dL_law_892 : decode cL_law 892 = .ok (.iaload, 1) := by decide +kernel
theorem dL_law_893 : decode cL_law 893 = .ok (.aload_n 0, 1) := by decide +kernel
theorem dL_law_894 : decode cL_law 894 = .ok (.iload 4, 2) := by decide +kernel
theorem dL_law_896 : decode cL_law 896 = .ok (.iconst 3, 1) := by decide +kernel
theorem dL_law_897 : decode cL_law 897 = .ok (.iadd, 1) := by decide +kernel
theorem dL_law_898 : decode cL_law 898 = .ok (.iaload, 1) := by decide +kernel
theorem dL_law_899 : decode cL_law 899 = .ok (.aload_n 3, 1) := by decide +kernel
theorem dL_law_900 : decode cL_law 900 = .ok (.invokestatic 104, 3) := by decide +kernel
theorem dL_law_903 : decode cL_law 903 = .ok (.istore 5, 2) := by decide +kernel
theorem dL_law_905 : decode cL_law 905 = .ok (.aload_n 2, 1) := by decide +kernel
theorem dL_law_906 : decode cL_law 906 = .ok (.aload_n 0, 1) := by decide +kernel
theorem dL_law_907 : decode cL_law 907 = .ok (.iload 4, 2) := by decide +kernel
theorem dL_law_909 : decode cL_law 909 = .ok (.iconst 1, 1) := by decide +kernel
theorem dL_law_910 : decode cL_law 910 = .ok (.iadd, 1) := by decide +kernel
theorem dL_law_911 : decode cL_law 911 = .ok (.iaload, 1) := by decide +kernel
theorem dL_law_912 : decode cL_law 912 = .ok (.aload_n 0, 1) := by decide +kernel
theorem dL_law_913 : decode cL_law 913 = .ok (.iload 4, 2) := by decide +kernel
theorem dL_law_915 : decode cL_law 915 = .ok (.iconst 2, 1) := by decide +kernel
theorem dL_law_916 : decode cL_law 916 = .ok (.iadd, 1) := by decide +kernel
theorem dL_law_917 : decode cL_law 917 = .ok (.iaload, 1) := by decide +kernel
theorem dL_law_918 : decode cL_law 918 = .ok (.aload_n 0, 1) := by decide +kernel
theorem dL_law_919 : decode cL_law 919 = .ok (.iload 4, 2) := by decide +kernel
theorem dL_law_921 : decode cL_law 921 = .ok (.iconst 3, 1) := by decide +kernel
theorem dL_law_922 : decode cL_law 922 = .ok (.iadd, 1) := by decide +kernel
theorem dL_law_923 : decode cL_law 923 = .ok (.iaload, 1) := by decide +kernel
theorem dL_law_924 : decode cL_law 924 = .ok (.invokevirtual 109, 3) := by decide +kernel
theorem dL_law_927 : decode cL_law 927 = .ok (.istore 6, 2) := by decide +kernel
theorem dL_law_929 : decode cL_law 929 = .ok (.aload_n 2, 1) := by decide +kernel
theorem dL_law_930 : decode cL_law 930 = .ok (.invokevirtual 110, 3) := by decide +kernel
theorem dL_law_933 : decode cL_law 933 = .ok (.iload 5, 2) := by decide +kernel
theorem dL_law_935 : decode cL_law 935 = .ok (.if_icmp .eq 5, 3) := by decide +kernel
theorem dL_law_938 : decode cL_law 938 = .ok (.iconst 0, 1) := by decide +kernel
theorem dL_law_939 : decode cL_law 939 = .ok (.ireturn, 1) := by decide +kernel
theorem dL_law_940 : decode cL_law 940 = .ok (.iload 5, 2) := by decide +kernel
theorem dL_law_942 : decode cL_law 942 = .ok (.ifCond .ne 15, 3) := by decide +kernel
theorem dL_law_945 : decode cL_law 945 = .ok (.aload_n 3, 1) := by decide +kernel
theorem dL_law_946 : decode cL_law 946 = .ok (.iconst 0, 1) := by decide +kernel
theorem dL_law_947 : decode cL_law 947 = .ok (.laload, 1) := by decide +kernel
theorem dL_law_948 : decode cL_law 948 = .ok (.iload 6, 2) := by decide +kernel
theorem dL_law_950 : decode cL_law 950 = .ok (.i2l, 1) := by decide +kernel
theorem dL_law_951 : decode cL_law 951 = .ok (.lcmp, 1) := by decide +kernel
theorem dL_law_952 : decode cL_law 952 = .ok (.ifCond .eq 5, 3) := by decide +kernel
theorem dL_law_955 : decode cL_law 955 = .ok (.iconst 0, 1) := by decide +kernel
theorem dL_law_956 : decode cL_law 956 = .ok (.ireturn, 1) := by decide +kernel
theorem dL_law_957 : decode cL_law 957 = .ok (.goto 748, 3) := by decide +kernel
theorem dL_law_960 : decode cL_law 960 = .ok (.aload_n 1, 1) := by decide +kernel
theorem dL_law_961 : decode cL_law 961 = .ok (.aload_n 0, 1) := by decide +kernel
theorem dL_law_962 : decode cL_law 962 = .ok (.iload 4, 2) := by decide +kernel
theorem dL_law_964 : decode cL_law 964 = .ok (.iconst 1, 1) := by decide +kernel
theorem dL_law_965 : decode cL_law 965 = .ok (.iadd, 1) := by decide +kernel
theorem dL_law_966 : decode cL_law 966 = .ok (.iaload, 1) := by decide +kernel
theorem dL_law_967 : decode cL_law 967 = .ok (.invokevirtual 113, 3) := by decide +kernel
theorem dL_law_970 : decode cL_law 970 = .ok (.aload_n 2, 1) := by decide +kernel
theorem dL_law_971 : decode cL_law 971 = .ok (.aload_n 0, 1) := by decide +kernel
theorem dL_law_972 : decode cL_law 972 = .ok (.iload 4, 2) := by decide +kernel
theorem dL_law_974 : decode cL_law 974 = .ok (.iconst 1, 1) := by decide +kernel
theorem dL_law_975 : decode cL_law 975 = .ok (.iadd, 1) := by decide +kernel
theorem dL_law_976 : decode cL_law 976 = .ok (.iaload, 1) := by decide +kernel
theorem dL_law_977 : decode cL_law 977 = .ok (.invokevirtual 116, 3) := by decide +kernel
theorem dL_law_980 : decode cL_law 980 = .ok (.if_icmp .eq 725, 3) := by decide +kernel
theorem dL_law_983 : decode cL_law 983 = .ok (.iconst 0, 1) := by decide +kernel
theorem dL_law_984 : decode cL_law 984 = .ok (.ireturn, 1) := by decide +kernel
theorem dL_law_985 : decode cL_law 985 = .ok (.aload_n 1, 1) := by decide +kernel
theorem dL_law_986 : decode cL_law 986 = .ok (.aload_n 0, 1) := by decide +kernel
theorem dL_law_987 : decode cL_law 987 = .ok (.iload 4, 2) := by decide +kernel
theorem dL_law_989 : decode cL_law 989 = .ok (.iconst 1, 1) := by decide +kernel
theorem dL_law_990 : decode cL_law 990 = .ok (.iadd, 1) := by decide +kernel
theorem dL_law_991 : decode cL_law 991 = .ok (.iaload, 1) := by decide +kernel
theorem dL_law_992 : decode cL_law 992 = .ok (.ifCond .eq 7, 3) := by decide +kernel
theorem dL_law_995 : decode cL_law 995 = .ok (.iconst 1, 1) := by decide +kernel
theorem dL_law_996 : decode cL_law 996 = .ok (.goto 4, 3) := by decide +kernel
theorem dL_law_999 : decode cL_law 999 = .ok (.iconst 0, 1) := by decide +kernel
theorem dL_law_1000 : decode cL_law 1000 = .ok (.invokevirtual 117, 3) := by decide +kernel
theorem dL_law_1003 : decode cL_law 1003 = .ok (.aload_n 2, 1) := by decide +kernel
theorem dL_law_1004 : decode cL_law 1004 = .ok (.aload_n 0, 1) := by decide +kernel
theorem dL_law_1005 : decode cL_law 1005 = .ok (.iload 4, 2) := by decide +kernel
theorem dL_law_1007 : decode cL_law 1007 = .ok (.iconst 1, 1) := by decide +kernel
theorem dL_law_1008 : decode cL_law 1008 = .ok (.iadd, 1) := by decide +kernel
theorem dL_law_1009 : decode cL_law 1009 = .ok (.iaload, 1) := by decide +kernel
theorem dL_law_1010 : decode cL_law 1010 = .ok (.ifCond .eq 7, 3) := by decide +kernel
theorem dL_law_1013 : decode cL_law 1013 = .ok (.iconst 1, 1) := by decide +kernel
theorem dL_law_1014 : decode cL_law 1014 = .ok (.goto 4, 3) := by decide +kernel
theorem dL_law_1017 : decode cL_law 1017 = .ok (.iconst 0, 1) := by decide +kernel
theorem dL_law_1018 : decode cL_law 1018 = .ok (.invokevirtual 121, 3) := by decide +kernel
theorem dL_law_1021 : decode cL_law 1021 = .ok (.if_icmp .eq 684, 3) := by decide +kernel
theorem dL_law_1024 : decode cL_law 1024 = .ok (.iconst 0, 1) := by decide +kernel
theorem dL_law_1025 : decode cL_law 1025 = .ok (.ireturn, 1) := by decide +kernel
theorem dL_law_1026 : decode cL_law 1026 = .ok (.aload_n 1, 1) := by decide +kernel
theorem dL_law_1027 : decode cL_law 1027 = .ok (.aload_n 0, 1) := by decide +kernel
theorem dL_law_1028 : decode cL_law 1028 = .ok (.iload 4, 2) := by decide +kernel
theorem dL_law_1030 : decode cL_law 1030 = .ok (.iconst 1, 1) := by decide +kernel
theorem dL_law_1031 : decode cL_law 1031 = .ok (.iadd, 1) := by decide +kernel
theorem dL_law_1032 : decode cL_law 1032 = .ok (.iaload, 1) := by decide +kernel
theorem dL_law_1033 : decode cL_law 1033 = .ok (.invokevirtual 122, 3) := by decide +kernel
theorem dL_law_1036 : decode cL_law 1036 = .ok (.aload_n 2, 1) := by decide +kernel
theorem dL_law_1037 : decode cL_law 1037 = .ok (.aload_n 0, 1) := by decide +kernel
theorem dL_law_1038 : decode cL_law 1038 = .ok (.iload 4, 2) := by decide +kernel
theorem dL_law_1040 : decode cL_law 1040 = .ok (.iconst 1, 1) := by decide +kernel
theorem dL_law_1041 : decode cL_law 1041 = .ok (.iadd, 1) := by decide +kernel
theorem dL_law_1042 : decode cL_law 1042 = .ok (.iaload, 1) := by decide +kernel
theorem dL_law_1043 : decode cL_law 1043 = .ok (.invokevirtual 125, 3) := by decide +kernel
theorem dL_law_1046 : decode cL_law 1046 = .ok (.if_icmp .eq 659, 3) := by decide +kernel
theorem dL_law_1049 : decode cL_law 1049 = .ok (.iconst 0, 1) := by decide +kernel
theorem dL_law_1050 : decode cL_law 1050 = .ok (.ireturn, 1) := by decide +kernel
theorem dL_law_1051 : decode cL_law 1051 = .ok (.aload_n 1, 1) := by decide +kernel
theorem dL_law_1052 : decode cL_law 1052 = .ok (.aload_n 0, 1) := by decide +kernel
theorem dL_law_1053 : decode cL_law 1053 = .ok (.iload 4, 2) := by decide +kernel
theorem dL_law_1055 : decode cL_law 1055 = .ok (.iconst 1, 1) := by decide +kernel
theorem dL_law_1056 : decode cL_law 1056 = .ok (.iadd, 1) := by decide +kernel
theorem dL_law_1057 : decode cL_law 1057 = .ok (.iaload, 1) := by decide +kernel
theorem dL_law_1058 : decode cL_law 1058 = .ok (.aload_n 0, 1) := by decide +kernel
theorem dL_law_1059 : decode cL_law 1059 = .ok (.iload 4, 2) := by decide +kernel
theorem dL_law_1061 : decode cL_law 1061 = .ok (.iconst 2, 1) := by decide +kernel
theorem dL_law_1062 : decode cL_law 1062 = .ok (.iadd, 1) := by decide +kernel
theorem dL_law_1063 : decode cL_law 1063 = .ok (.iaload, 1) := by decide +kernel
theorem dL_law_1064 : decode cL_law 1064 = .ok (.aload_n 0, 1) := by decide +kernel
theorem dL_law_1065 : decode cL_law 1065 = .ok (.iload 4, 2) := by decide +kernel
theorem dL_law_1067 : decode cL_law 1067 = .ok (.iconst 3, 1) := by decide +kernel
theorem dL_law_1068 : decode cL_law 1068 = .ok (.iadd, 1) := by decide +kernel
theorem dL_law_1069 : decode cL_law 1069 = .ok (.iaload, 1) := by decide +kernel
theorem dL_law_1070 : decode cL_law 1070 = .ok (.invokevirtual 126, 3) := by decide +kernel
theorem dL_law_1073 : decode cL_law 1073 = .ok (.aload_n 2, 1) := by decide +kernel
theorem dL_law_1074 : decode cL_law 1074 = .ok (.aload_n 0, 1) := by decide +kernel
theorem dL_law_1075 : decode cL_law 1075 = .ok (.iload 4, 2) := by decide +kernel
theorem dL_law_1077 : decode cL_law 1077 = .ok (.iconst 1, 1) := by decide +kernel
theorem dL_law_1078 : decode cL_law 1078 = .ok (.iadd, 1) := by decide +kernel
theorem dL_law_1079 : decode cL_law 1079 = .ok (.iaload, 1) := by decide +kernel
theorem dL_law_1080 : decode cL_law 1080 = .ok (.aload_n 0, 1) := by decide +kernel
theorem dL_law_1081 : decode cL_law 1081 = .ok (.iload 4, 2) := by decide +kernel
theorem dL_law_1083 : decode cL_law 1083 = .ok (.iconst 2, 1) := by decide +kernel
theorem dL_law_1084 : decode cL_law 1084 = .ok (.iadd, 1) := by decide +kernel
theorem dL_law_1085 : decode cL_law 1085 = .ok (.iaload, 1) := by decide +kernel
theorem dL_law_1086 : decode cL_law 1086 = .ok (.aload_n 0, 1) := by decide +kernel
theorem dL_law_1087 : decode cL_law 1087 = .ok (.iload 4, 2) := by decide +kernel
theorem dL_law_1089 : decode cL_law 1089 = .ok (.iconst 3, 1) := by decide +kernel
theorem dL_law_1090 : decode cL_law 1090 = .ok (.iadd, 1) := by decide +kernel
theorem dL_law_1091 : decode cL_law 1091 = .ok (.iaload, 1) := by decide +kernel
theorem dL_law_1092 : decode cL_law 1092 = .ok (.invokevirtual 129, 3) := by decide +kernel
theorem dL_law_1095 : decode cL_law 1095 = .ok (.if_icmp .eq 610, 3) := by decide +kernel
theorem dL_law_1098 : decode cL_law 1098 = .ok (.iconst 0, 1) := by decide +kernel
theorem dL_law_1099 : decode cL_law 1099 = .ok (.ireturn, 1) := by decide +kernel
theorem dL_law_1100 : decode cL_law 1100 = .ok (.aload_n 1, 1) := by decide +kernel
theorem dL_law_1101 : decode cL_law 1101 = .ok (.aload_n 0, 1) := by decide +kernel
theorem dL_law_1102 : decode cL_law 1102 = .ok (.iload 4, 2) := by decide +kernel
theorem dL_law_1104 : decode cL_law 1104 = .ok (.iconst 1, 1) := by decide +kernel
theorem dL_law_1105 : decode cL_law 1105 = .ok (.iadd, 1) := by decide +kernel
theorem dL_law_1106 : decode cL_law 1106 = .ok (.iaload, 1) := by decide +kernel
theorem dL_law_1107 : decode cL_law 1107 = .ok (.aload_n 0, 1) := by decide +kernel
theorem dL_law_1108 : decode cL_law 1108 = .ok (.iload 4, 2) := by decide +kernel
theorem dL_law_1110 : decode cL_law 1110 = .ok (.iconst 2, 1) := by decide +kernel
theorem dL_law_1111 : decode cL_law 1111 = .ok (.iadd, 1) := by decide +kernel
theorem dL_law_1112 : decode cL_law 1112 = .ok (.iaload, 1) := by decide +kernel
theorem dL_law_1113 : decode cL_law 1113 = .ok (.ifCond .eq 7, 3) := by decide +kernel
theorem dL_law_1116 : decode cL_law 1116 = .ok (.iconst 1, 1) := by decide +kernel
theorem dL_law_1117 : decode cL_law 1117 = .ok (.goto 4, 3) := by decide +kernel
theorem dL_law_1120 : decode cL_law 1120 = .ok (.iconst 0, 1) := by decide +kernel
theorem dL_law_1121 : decode cL_law 1121 = .ok (.invokevirtual 130, 3) := by decide +kernel
theorem dL_law_1124 : decode cL_law 1124 = .ok (.aload_n 2, 1) := by decide +kernel
theorem dL_law_1125 : decode cL_law 1125 = .ok (.aload_n 0, 1) := by decide +kernel
theorem dL_law_1126 : decode cL_law 1126 = .ok (.iload 4, 2) := by decide +kernel
theorem dL_law_1128 : decode cL_law 1128 = .ok (.iconst 1, 1) := by decide +kernel
theorem dL_law_1129 : decode cL_law 1129 = .ok (.iadd, 1) := by decide +kernel
theorem dL_law_1130 : decode cL_law 1130 = .ok (.iaload, 1) := by decide +kernel
theorem dL_law_1131 : decode cL_law 1131 = .ok (.aload_n 0, 1) := by decide +kernel
theorem dL_law_1132 : decode cL_law 1132 = .ok (.iload 4, 2) := by decide +kernel
theorem dL_law_1134 : decode cL_law 1134 = .ok (.iconst 2, 1) := by decide +kernel
theorem dL_law_1135 : decode cL_law 1135 = .ok (.iadd, 1) := by decide +kernel
theorem dL_law_1136 : decode cL_law 1136 = .ok (.iaload, 1) := by decide +kernel
theorem dL_law_1137 : decode cL_law 1137 = .ok (.ifCond .eq 7, 3) := by decide +kernel
theorem dL_law_1140 : decode cL_law 1140 = .ok (.iconst 1, 1) := by decide +kernel
theorem dL_law_1141 : decode cL_law 1141 = .ok (.goto 4, 3) := by decide +kernel
theorem dL_law_1144 : decode cL_law 1144 = .ok (.iconst 0, 1) := by decide +kernel
theorem dL_law_1145 : decode cL_law 1145 = .ok (.invokevirtual 134, 3) := by decide +kernel
theorem dL_law_1148 : decode cL_law 1148 = .ok (.lcmp, 1) := by decide +kernel
theorem dL_law_1149 : decode cL_law 1149 = .ok (.ifCond .eq 556, 3) := by decide +kernel
theorem dL_law_1152 : decode cL_law 1152 = .ok (.iconst 0, 1) := by decide +kernel
theorem dL_law_1153 : decode cL_law 1153 = .ok (.ireturn, 1) := by decide +kernel
theorem dL_law_1154 : decode cL_law 1154 = .ok (.aload_n 1, 1) := by decide +kernel
theorem dL_law_1155 : decode cL_law 1155 = .ok (.aload_n 0, 1) := by decide +kernel
theorem dL_law_1156 : decode cL_law 1156 = .ok (.iload 4, 2) := by decide +kernel
theorem dL_law_1158 : decode cL_law 1158 = .ok (.iconst 1, 1) := by decide +kernel
theorem dL_law_1159 : decode cL_law 1159 = .ok (.iadd, 1) := by decide +kernel
theorem dL_law_1160 : decode cL_law 1160 = .ok (.iaload, 1) := by decide +kernel
theorem dL_law_1161 : decode cL_law 1161 = .ok (.aload_n 0, 1) := by decide +kernel
theorem dL_law_1162 : decode cL_law 1162 = .ok (.iload 4, 2) := by decide +kernel
theorem dL_law_1164 : decode cL_law 1164 = .ok (.iconst 2, 1) := by decide +kernel
theorem dL_law_1165 : decode cL_law 1165 = .ok (.iadd, 1) := by decide +kernel
theorem dL_law_1166 : decode cL_law 1166 = .ok (.iaload, 1) := by decide +kernel
theorem dL_law_1167 : decode cL_law 1167 = .ok (.aload_n 0, 1) := by decide +kernel
theorem dL_law_1168 : decode cL_law 1168 = .ok (.iload 4, 2) := by decide +kernel
theorem dL_law_1170 : decode cL_law 1170 = .ok (.iconst 3, 1) := by decide +kernel
theorem dL_law_1171 : decode cL_law 1171 = .ok (.iadd, 1) := by decide +kernel
theorem dL_law_1172 : decode cL_law 1172 = .ok (.iaload, 1) := by decide +kernel
theorem dL_law_1173 : decode cL_law 1173 = .ok (.aload_n 0, 1) := by decide +kernel
theorem dL_law_1174 : decode cL_law 1174 = .ok (.iload 4, 2) := by decide +kernel
theorem dL_law_1176 : decode cL_law 1176 = .ok (.iconst 4, 1) := by decide +kernel
theorem dL_law_1177 : decode cL_law 1177 = .ok (.iadd, 1) := by decide +kernel
theorem dL_law_1178 : decode cL_law 1178 = .ok (.iaload, 1) := by decide +kernel
theorem dL_law_1179 : decode cL_law 1179 = .ok (.invokevirtual 135, 3) := by decide +kernel
theorem dL_law_1182 : decode cL_law 1182 = .ok (.aload_n 2, 1) := by decide +kernel
theorem dL_law_1183 : decode cL_law 1183 = .ok (.aload_n 0, 1) := by decide +kernel
theorem dL_law_1184 : decode cL_law 1184 = .ok (.iload 4, 2) := by decide +kernel
theorem dL_law_1186 : decode cL_law 1186 = .ok (.iconst 1, 1) := by decide +kernel
theorem dL_law_1187 : decode cL_law 1187 = .ok (.iadd, 1) := by decide +kernel
theorem dL_law_1188 : decode cL_law 1188 = .ok (.iaload, 1) := by decide +kernel
theorem dL_law_1189 : decode cL_law 1189 = .ok (.aload_n 0, 1) := by decide +kernel
theorem dL_law_1190 : decode cL_law 1190 = .ok (.iload 4, 2) := by decide +kernel
theorem dL_law_1192 : decode cL_law 1192 = .ok (.iconst 2, 1) := by decide +kernel
theorem dL_law_1193 : decode cL_law 1193 = .ok (.iadd, 1) := by decide +kernel
theorem dL_law_1194 : decode cL_law 1194 = .ok (.iaload, 1) := by decide +kernel
theorem dL_law_1195 : decode cL_law 1195 = .ok (.aload_n 0, 1) := by decide +kernel
theorem dL_law_1196 : decode cL_law 1196 = .ok (.iload 4, 2) := by decide +kernel
theorem dL_law_1198 : decode cL_law 1198 = .ok (.iconst 3, 1) := by decide +kernel
theorem dL_law_1199 : decode cL_law 1199 = .ok (.iadd, 1) := by decide +kernel
theorem dL_law_1200 : decode cL_law 1200 = .ok (.iaload, 1) := by decide +kernel
theorem dL_law_1201 : decode cL_law 1201 = .ok (.aload_n 0, 1) := by decide +kernel
theorem dL_law_1202 : decode cL_law 1202 = .ok (.iload 4, 2) := by decide +kernel
theorem dL_law_1204 : decode cL_law 1204 = .ok (.iconst 4, 1) := by decide +kernel
theorem dL_law_1205 : decode cL_law 1205 = .ok (.iadd, 1) := by decide +kernel
theorem dL_law_1206 : decode cL_law 1206 = .ok (.iaload, 1) := by decide +kernel
theorem dL_law_1207 : decode cL_law 1207 = .ok (.invokevirtual 138, 3) := by decide +kernel
theorem dL_law_1210 : decode cL_law 1210 = .ok (.if_icmp .eq 495, 3) := by decide +kernel
theorem dL_law_1213 : decode cL_law 1213 = .ok (.iconst 0, 1) := by decide +kernel
theorem dL_law_1214 : decode cL_law 1214 = .ok (.ireturn, 1) := by decide +kernel
theorem dL_law_1215 : decode cL_law 1215 = .ok (.aload_n 1, 1) := by decide +kernel
theorem dL_law_1216 : decode cL_law 1216 = .ok (.aload_n 0, 1) := by decide +kernel
theorem dL_law_1217 : decode cL_law 1217 = .ok (.iload 4, 2) := by decide +kernel
theorem dL_law_1219 : decode cL_law 1219 = .ok (.iconst 1, 1) := by decide +kernel
theorem dL_law_1220 : decode cL_law 1220 = .ok (.iadd, 1) := by decide +kernel
theorem dL_law_1221 : decode cL_law 1221 = .ok (.iaload, 1) := by decide +kernel
theorem dL_law_1222 : decode cL_law 1222 = .ok (.invokevirtual 139, 3) := by decide +kernel
theorem dL_law_1225 : decode cL_law 1225 = .ok (.aload_n 2, 1) := by decide +kernel
theorem dL_law_1226 : decode cL_law 1226 = .ok (.aload_n 0, 1) := by decide +kernel
theorem dL_law_1227 : decode cL_law 1227 = .ok (.iload 4, 2) := by decide +kernel
theorem dL_law_1229 : decode cL_law 1229 = .ok (.iconst 1, 1) := by decide +kernel
theorem dL_law_1230 : decode cL_law 1230 = .ok (.iadd, 1) := by decide +kernel
theorem dL_law_1231 : decode cL_law 1231 = .ok (.iaload, 1) := by decide +kernel
theorem dL_law_1232 : decode cL_law 1232 = .ok (.invokevirtual 142, 3) := by decide +kernel
theorem dL_law_1235 : decode cL_law 1235 = .ok (.if_icmp .eq 470, 3) := by decide +kernel
theorem dL_law_1238 : decode cL_law 1238 = .ok (.iconst 0, 1) := by decide +kernel
theorem dL_law_1239 : decode cL_law 1239 = .ok (.ireturn, 1) := by decide +kernel
theorem dL_law_1240 : decode cL_law 1240 = .ok (.aload_n 1, 1) := by decide +kernel
theorem dL_law_1241 : decode cL_law 1241 = .ok (.aload_n 0, 1) := by decide +kernel
theorem dL_law_1242 : decode cL_law 1242 = .ok (.iload 4, 2) := by decide +kernel
theorem dL_law_1244 : decode cL_law 1244 = .ok (.iconst 1, 1) := by decide +kernel
theorem dL_law_1245 : decode cL_law 1245 = .ok (.iadd, 1) := by decide +kernel
theorem dL_law_1246 : decode cL_law 1246 = .ok (.iaload, 1) := by decide +kernel
theorem dL_law_1247 : decode cL_law 1247 = .ok (.aload_n 0, 1) := by decide +kernel
theorem dL_law_1248 : decode cL_law 1248 = .ok (.iload 4, 2) := by decide +kernel
theorem dL_law_1250 : decode cL_law 1250 = .ok (.iconst 2, 1) := by decide +kernel
theorem dL_law_1251 : decode cL_law 1251 = .ok (.iadd, 1) := by decide +kernel
theorem dL_law_1252 : decode cL_law 1252 = .ok (.iaload, 1) := by decide +kernel
theorem dL_law_1253 : decode cL_law 1253 = .ok (.aload_n 0, 1) := by decide +kernel
theorem dL_law_1254 : decode cL_law 1254 = .ok (.iload 4, 2) := by decide +kernel
theorem dL_law_1256 : decode cL_law 1256 = .ok (.iconst 3, 1) := by decide +kernel
theorem dL_law_1257 : decode cL_law 1257 = .ok (.iadd, 1) := by decide +kernel
theorem dL_law_1258 : decode cL_law 1258 = .ok (.iaload, 1) := by decide +kernel
theorem dL_law_1259 : decode cL_law 1259 = .ok (.invokevirtual 143, 3) := by decide +kernel
theorem dL_law_1262 : decode cL_law 1262 = .ok (.aload_n 2, 1) := by decide +kernel
theorem dL_law_1263 : decode cL_law 1263 = .ok (.aload_n 0, 1) := by decide +kernel
theorem dL_law_1264 : decode cL_law 1264 = .ok (.iload 4, 2) := by decide +kernel
theorem dL_law_1266 : decode cL_law 1266 = .ok (.iconst 1, 1) := by decide +kernel
theorem dL_law_1267 : decode cL_law 1267 = .ok (.iadd, 1) := by decide +kernel
theorem dL_law_1268 : decode cL_law 1268 = .ok (.iaload, 1) := by decide +kernel
theorem dL_law_1269 : decode cL_law 1269 = .ok (.aload_n 0, 1) := by decide +kernel
theorem dL_law_1270 : decode cL_law 1270 = .ok (.iload 4, 2) := by decide +kernel
theorem dL_law_1272 : decode cL_law 1272 = .ok (.iconst 2, 1) := by decide +kernel
theorem dL_law_1273 : decode cL_law 1273 = .ok (.iadd, 1) := by decide +kernel
theorem dL_law_1274 : decode cL_law 1274 = .ok (.iaload, 1) := by decide +kernel
theorem dL_law_1275 : decode cL_law 1275 = .ok (.aload_n 0, 1) := by decide +kernel
theorem dL_law_1276 : decode cL_law 1276 = .ok (.iload 4, 2) := by decide +kernel
theorem dL_law_1278 : decode cL_law 1278 = .ok (.iconst 3, 1) := by decide +kernel
theorem dL_law_1279 : decode cL_law 1279 = .ok (.iadd, 1) := by decide +kernel
theorem dL_law_1280 : decode cL_law 1280 = .ok (.iaload, 1) := by decide +kernel
theorem dL_law_1281 : decode cL_law 1281 = .ok (.invokevirtual 147, 3) := by decide +kernel
theorem dL_law_1284 : decode cL_law 1284 = .ok (.if_icmp .eq 421, 3) := by decide +kernel
theorem dL_law_1287 : decode cL_law 1287 = .ok (.iconst 0, 1) := by decide +kernel
theorem dL_law_1288 : decode cL_law 1288 = .ok (.ireturn, 1) := by decide +kernel
theorem dL_law_1289 : decode cL_law 1289 = .ok (.aload_n 1, 1) := by decide +kernel
theorem dL_law_1290 : decode cL_law 1290 = .ok (.aload_n 0, 1) := by decide +kernel
theorem dL_law_1291 : decode cL_law 1291 = .ok (.iload 4, 2) := by decide +kernel
theorem dL_law_1293 : decode cL_law 1293 = .ok (.iconst 1, 1) := by decide +kernel
theorem dL_law_1294 : decode cL_law 1294 = .ok (.iadd, 1) := by decide +kernel
theorem dL_law_1295 : decode cL_law 1295 = .ok (.iaload, 1) := by decide +kernel
theorem dL_law_1296 : decode cL_law 1296 = .ok (.invokevirtual 148, 3) := by decide +kernel
theorem dL_law_1299 : decode cL_law 1299 = .ok (.aload_n 2, 1) := by decide +kernel
theorem dL_law_1300 : decode cL_law 1300 = .ok (.aload_n 0, 1) := by decide +kernel
theorem dL_law_1301 : decode cL_law 1301 = .ok (.iload 4, 2) := by decide +kernel
theorem dL_law_1303 : decode cL_law 1303 = .ok (.iconst 1, 1) := by decide +kernel
theorem dL_law_1304 : decode cL_law 1304 = .ok (.iadd, 1) := by decide +kernel
theorem dL_law_1305 : decode cL_law 1305 = .ok (.iaload, 1) := by decide +kernel
theorem dL_law_1306 : decode cL_law 1306 = .ok (.invokevirtual 151, 3) := by decide +kernel
theorem dL_law_1309 : decode cL_law 1309 = .ok (.if_icmp .eq 396, 3) := by decide +kernel
theorem dL_law_1312 : decode cL_law 1312 = .ok (.iconst 0, 1) := by decide +kernel
theorem dL_law_1313 : decode cL_law 1313 = .ok (.ireturn, 1) := by decide +kernel
theorem dL_law_1314 : decode cL_law 1314 = .ok (.aload_n 1, 1) := by decide +kernel
theorem dL_law_1315 : decode cL_law 1315 = .ok (.aload_n 0, 1) := by decide +kernel
theorem dL_law_1316 : decode cL_law 1316 = .ok (.iload 4, 2) := by decide +kernel
theorem dL_law_1318 : decode cL_law 1318 = .ok (.iconst 1, 1) := by decide +kernel
theorem dL_law_1319 : decode cL_law 1319 = .ok (.iadd, 1) := by decide +kernel
theorem dL_law_1320 : decode cL_law 1320 = .ok (.iaload, 1) := by decide +kernel
theorem dL_law_1321 : decode cL_law 1321 = .ok (.invokevirtual 152, 3) := by decide +kernel
theorem dL_law_1324 : decode cL_law 1324 = .ok (.aload_n 2, 1) := by decide +kernel
theorem dL_law_1325 : decode cL_law 1325 = .ok (.aload_n 0, 1) := by decide +kernel
theorem dL_law_1326 : decode cL_law 1326 = .ok (.iload 4, 2) := by decide +kernel
theorem dL_law_1328 : decode cL_law 1328 = .ok (.iconst 1, 1) := by decide +kernel
theorem dL_law_1329 : decode cL_law 1329 = .ok (.iadd, 1) := by decide +kernel
theorem dL_law_1330 : decode cL_law 1330 = .ok (.iaload, 1) := by decide +kernel
theorem dL_law_1331 : decode cL_law 1331 = .ok (.invokevirtual 155, 3) := by decide +kernel
theorem dL_law_1334 : decode cL_law 1334 = .ok (.if_icmp .eq 371, 3) := by decide +kernel
theorem dL_law_1337 : decode cL_law 1337 = .ok (.iconst 0, 1) := by decide +kernel
theorem dL_law_1338 : decode cL_law 1338 = .ok (.ireturn, 1) := by decide +kernel
theorem dL_law_1339 : decode cL_law 1339 = .ok (.aload_n 1, 1) := by decide +kernel
theorem dL_law_1340 : decode cL_law 1340 = .ok (.aload_n 0, 1) := by decide +kernel
theorem dL_law_1341 : decode cL_law 1341 = .ok (.iload 4, 2) := by decide +kernel
theorem dL_law_1343 : decode cL_law 1343 = .ok (.iconst 1, 1) := by decide +kernel
theorem dL_law_1344 : decode cL_law 1344 = .ok (.iadd, 1) := by decide +kernel
theorem dL_law_1345 : decode cL_law 1345 = .ok (.iaload, 1) := by decide +kernel
theorem dL_law_1346 : decode cL_law 1346 = .ok (.aload_n 0, 1) := by decide +kernel
theorem dL_law_1347 : decode cL_law 1347 = .ok (.iload 4, 2) := by decide +kernel
theorem dL_law_1349 : decode cL_law 1349 = .ok (.iconst 2, 1) := by decide +kernel
theorem dL_law_1350 : decode cL_law 1350 = .ok (.iadd, 1) := by decide +kernel
theorem dL_law_1351 : decode cL_law 1351 = .ok (.iaload, 1) := by decide +kernel
theorem dL_law_1352 : decode cL_law 1352 = .ok (.ifCond .eq 7, 3) := by decide +kernel
theorem dL_law_1355 : decode cL_law 1355 = .ok (.iconst 1, 1) := by decide +kernel
theorem dL_law_1356 : decode cL_law 1356 = .ok (.goto 4, 3) := by decide +kernel
theorem dL_law_1359 : decode cL_law 1359 = .ok (.iconst 0, 1) := by decide +kernel
theorem dL_law_1360 : decode cL_law 1360 = .ok (.invokevirtual 156, 3) := by decide +kernel
theorem dL_law_1363 : decode cL_law 1363 = .ok (.aload_n 2, 1) := by decide +kernel
theorem dL_law_1364 : decode cL_law 1364 = .ok (.aload_n 0, 1) := by decide +kernel
theorem dL_law_1365 : decode cL_law 1365 = .ok (.iload 4, 2) := by decide +kernel
theorem dL_law_1367 : decode cL_law 1367 = .ok (.iconst 1, 1) := by decide +kernel
theorem dL_law_1368 : decode cL_law 1368 = .ok (.iadd, 1) := by decide +kernel
theorem dL_law_1369 : decode cL_law 1369 = .ok (.iaload, 1) := by decide +kernel
theorem dL_law_1370 : decode cL_law 1370 = .ok (.aload_n 0, 1) := by decide +kernel
theorem dL_law_1371 : decode cL_law 1371 = .ok (.iload 4, 2) := by decide +kernel
theorem dL_law_1373 : decode cL_law 1373 = .ok (.iconst 2, 1) := by decide +kernel
theorem dL_law_1374 : decode cL_law 1374 = .ok (.iadd, 1) := by decide +kernel
theorem dL_law_1375 : decode cL_law 1375 = .ok (.iaload, 1) := by decide +kernel
theorem dL_law_1376 : decode cL_law 1376 = .ok (.ifCond .eq 7, 3) := by decide +kernel
theorem dL_law_1379 : decode cL_law 1379 = .ok (.iconst 1, 1) := by decide +kernel
theorem dL_law_1380 : decode cL_law 1380 = .ok (.goto 4, 3) := by decide +kernel
theorem dL_law_1383 : decode cL_law 1383 = .ok (.iconst 0, 1) := by decide +kernel
theorem dL_law_1384 : decode cL_law 1384 = .ok (.invokevirtual 160, 3) := by decide +kernel
theorem dL_law_1387 : decode cL_law 1387 = .ok (.if_icmp .eq 318, 3) := by decide +kernel
theorem dL_law_1390 : decode cL_law 1390 = .ok (.iconst 0, 1) := by decide +kernel
theorem dL_law_1391 : decode cL_law 1391 = .ok (.ireturn, 1) := by decide +kernel
theorem dL_law_1392 : decode cL_law 1392 = .ok (.aload_n 1, 1) := by decide +kernel
theorem dL_law_1393 : decode cL_law 1393 = .ok (.invokevirtual 161, 3) := by decide +kernel
theorem dL_law_1396 : decode cL_law 1396 = .ok (.aload_n 2, 1) := by decide +kernel
theorem dL_law_1397 : decode cL_law 1397 = .ok (.invokevirtual 164, 3) := by decide +kernel
theorem dL_law_1400 : decode cL_law 1400 = .ok (.if_icmp .eq 305, 3) := by decide +kernel
theorem dL_law_1403 : decode cL_law 1403 = .ok (.iconst 0, 1) := by decide +kernel
theorem dL_law_1404 : decode cL_law 1404 = .ok (.ireturn, 1) := by decide +kernel
theorem dL_law_1405 : decode cL_law 1405 = .ok (.aload_n 1, 1) := by decide +kernel
theorem dL_law_1406 : decode cL_law 1406 = .ok (.aload_n 0, 1) := by decide +kernel
theorem dL_law_1407 : decode cL_law 1407 = .ok (.iload 4, 2) := by decide +kernel
theorem dL_law_1409 : decode cL_law 1409 = .ok (.iconst 1, 1) := by decide +kernel
theorem dL_law_1410 : decode cL_law 1410 = .ok (.iadd, 1) := by decide +kernel
theorem dL_law_1411 : decode cL_law 1411 = .ok (.iaload, 1) := by decide +kernel
theorem dL_law_1412 : decode cL_law 1412 = .ok (.invokevirtual 165, 3) := by decide +kernel
theorem dL_law_1415 : decode cL_law 1415 = .ok (.aload_n 2, 1) := by decide +kernel
theorem dL_law_1416 : decode cL_law 1416 = .ok (.aload_n 0, 1) := by decide +kernel
theorem dL_law_1417 : decode cL_law 1417 = .ok (.iload 4, 2) := by decide +kernel
theorem dL_law_1419 : decode cL_law 1419 = .ok (.iconst 1, 1) := by decide +kernel
theorem dL_law_1420 : decode cL_law 1420 = .ok (.iadd, 1) := by decide +kernel
theorem dL_law_1421 : decode cL_law 1421 = .ok (.iaload, 1) := by decide +kernel
theorem dL_law_1422 : decode cL_law 1422 = .ok (.invokevirtual 168, 3) := by decide +kernel
theorem dL_law_1425 : decode cL_law 1425 = .ok (.if_icmp .eq 280, 3) := by decide +kernel
theorem dL_law_1428 : decode cL_law 1428 = .ok (.iconst 0, 1) := by decide +kernel
theorem dL_law_1429 : decode cL_law 1429 = .ok (.ireturn, 1) := by decide +kernel
theorem dL_law_1430 : decode cL_law 1430 = .ok (.aload_n 1, 1) := by decide +kernel
theorem dL_law_1431 : decode cL_law 1431 = .ok (.invokevirtual 169, 3) := by decide +kernel
theorem dL_law_1434 : decode cL_law 1434 = .ok (.aload_n 2, 1) := by decide +kernel
theorem dL_law_1435 : decode cL_law 1435 = .ok (.invokevirtual 172, 3) := by decide +kernel
theorem dL_law_1438 : decode cL_law 1438 = .ok (.if_icmp .eq 267, 3) := by decide +kernel
theorem dL_law_1441 : decode cL_law 1441 = .ok (.iconst 0, 1) := by decide +kernel
theorem dL_law_1442 : decode cL_law 1442 = .ok (.ireturn, 1) := by decide +kernel
theorem dL_law_1443 : decode cL_law 1443 = .ok (.aload_n 1, 1) := by decide +kernel
theorem dL_law_1444 : decode cL_law 1444 = .ok (.aload_n 0, 1) := by decide +kernel
theorem dL_law_1445 : decode cL_law 1445 = .ok (.iload 4, 2) := by decide +kernel
theorem dL_law_1447 : decode cL_law 1447 = .ok (.iconst 1, 1) := by decide +kernel
theorem dL_law_1448 : decode cL_law 1448 = .ok (.iadd, 1) := by decide +kernel
theorem dL_law_1449 : decode cL_law 1449 = .ok (.iaload, 1) := by decide +kernel
theorem dL_law_1450 : decode cL_law 1450 = .ok (.invokevirtual 173, 3) := by decide +kernel
theorem dL_law_1453 : decode cL_law 1453 = .ok (.aload_n 2, 1) := by decide +kernel
theorem dL_law_1454 : decode cL_law 1454 = .ok (.aload_n 0, 1) := by decide +kernel
theorem dL_law_1455 : decode cL_law 1455 = .ok (.iload 4, 2) := by decide +kernel
theorem dL_law_1457 : decode cL_law 1457 = .ok (.iconst 1, 1) := by decide +kernel
theorem dL_law_1458 : decode cL_law 1458 = .ok (.iadd, 1) := by decide +kernel
theorem dL_law_1459 : decode cL_law 1459 = .ok (.iaload, 1) := by decide +kernel
theorem dL_law_1460 : decode cL_law 1460 = .ok (.invokevirtual 176, 3) := by decide +kernel
theorem dL_law_1463 : decode cL_law 1463 = .ok (.if_icmp .eq 242, 3) := by decide +kernel
theorem dL_law_1466 : decode cL_law 1466 = .ok (.iconst 0, 1) := by decide +kernel
theorem dL_law_1467 : decode cL_law 1467 = .ok (.ireturn, 1) := by decide +kernel
theorem dL_law_1468 : decode cL_law 1468 = .ok (.aload_n 1, 1) := by decide +kernel
theorem dL_law_1469 : decode cL_law 1469 = .ok (.invokevirtual 177, 3) := by decide +kernel
theorem dL_law_1472 : decode cL_law 1472 = .ok (.aload_n 2, 1) := by decide +kernel
theorem dL_law_1473 : decode cL_law 1473 = .ok (.invokevirtual 180, 3) := by decide +kernel
theorem dL_law_1476 : decode cL_law 1476 = .ok (.if_icmp .eq 229, 3) := by decide +kernel
theorem dL_law_1479 : decode cL_law 1479 = .ok (.iconst 0, 1) := by decide +kernel
theorem dL_law_1480 : decode cL_law 1480 = .ok (.ireturn, 1) := by decide +kernel
theorem dL_law_1481 : decode cL_law 1481 = .ok (.aload_n 1, 1) := by decide +kernel
theorem dL_law_1482 : decode cL_law 1482 = .ok (.aload_n 0, 1) := by decide +kernel
theorem dL_law_1483 : decode cL_law 1483 = .ok (.iload 4, 2) := by decide +kernel
theorem dL_law_1485 : decode cL_law 1485 = .ok (.iconst 1, 1) := by decide +kernel
theorem dL_law_1486 : decode cL_law 1486 = .ok (.iadd, 1) := by decide +kernel
theorem dL_law_1487 : decode cL_law 1487 = .ok (.iaload, 1) := by decide +kernel
theorem dL_law_1488 : decode cL_law 1488 = .ok (.aload_n 0, 1) := by decide +kernel
theorem dL_law_1489 : decode cL_law 1489 = .ok (.iload 4, 2) := by decide +kernel
theorem dL_law_1491 : decode cL_law 1491 = .ok (.iconst 2, 1) := by decide +kernel
theorem dL_law_1492 : decode cL_law 1492 = .ok (.iadd, 1) := by decide +kernel
theorem dL_law_1493 : decode cL_law 1493 = .ok (.iaload, 1) := by decide +kernel
theorem dL_law_1494 : decode cL_law 1494 = .ok (.aload_n 0, 1) := by decide +kernel
theorem dL_law_1495 : decode cL_law 1495 = .ok (.iload 4, 2) := by decide +kernel
theorem dL_law_1497 : decode cL_law 1497 = .ok (.iconst 3, 1) := by decide +kernel
theorem dL_law_1498 : decode cL_law 1498 = .ok (.iadd, 1) := by decide +kernel
theorem dL_law_1499 : decode cL_law 1499 = .ok (.iaload, 1) := by decide +kernel
theorem dL_law_1500 : decode cL_law 1500 = .ok (.aload_n 0, 1) := by decide +kernel
theorem dL_law_1501 : decode cL_law 1501 = .ok (.iload 4, 2) := by decide +kernel
theorem dL_law_1503 : decode cL_law 1503 = .ok (.iconst 4, 1) := by decide +kernel
theorem dL_law_1504 : decode cL_law 1504 = .ok (.iadd, 1) := by decide +kernel
theorem dL_law_1505 : decode cL_law 1505 = .ok (.iaload, 1) := by decide +kernel
theorem dL_law_1506 : decode cL_law 1506 = .ok (.aload_n 0, 1) := by decide +kernel
theorem dL_law_1507 : decode cL_law 1507 = .ok (.iload 4, 2) := by decide +kernel
theorem dL_law_1509 : decode cL_law 1509 = .ok (.iconst 5, 1) := by decide +kernel
theorem dL_law_1510 : decode cL_law 1510 = .ok (.iadd, 1) := by decide +kernel
theorem dL_law_1511 : decode cL_law 1511 = .ok (.iaload, 1) := by decide +kernel
theorem dL_law_1512 : decode cL_law 1512 = .ok (.invokevirtual 181, 3) := by decide +kernel
theorem dL_law_1515 : decode cL_law 1515 = .ok (.aload_n 2, 1) := by decide +kernel
theorem dL_law_1516 : decode cL_law 1516 = .ok (.aload_n 0, 1) := by decide +kernel
theorem dL_law_1517 : decode cL_law 1517 = .ok (.iload 4, 2) := by decide +kernel
theorem dL_law_1519 : decode cL_law 1519 = .ok (.iconst 1, 1) := by decide +kernel
theorem dL_law_1520 : decode cL_law 1520 = .ok (.iadd, 1) := by decide +kernel
theorem dL_law_1521 : decode cL_law 1521 = .ok (.iaload, 1) := by decide +kernel
theorem dL_law_1522 : decode cL_law 1522 = .ok (.aload_n 0, 1) := by decide +kernel
theorem dL_law_1523 : decode cL_law 1523 = .ok (.iload 4, 2) := by decide +kernel
theorem dL_law_1525 : decode cL_law 1525 = .ok (.iconst 2, 1) := by decide +kernel
theorem dL_law_1526 : decode cL_law 1526 = .ok (.iadd, 1) := by decide +kernel
theorem dL_law_1527 : decode cL_law 1527 = .ok (.iaload, 1) := by decide +kernel
theorem dL_law_1528 : decode cL_law 1528 = .ok (.aload_n 0, 1) := by decide +kernel
theorem dL_law_1529 : decode cL_law 1529 = .ok (.iload 4, 2) := by decide +kernel
theorem dL_law_1531 : decode cL_law 1531 = .ok (.iconst 3, 1) := by decide +kernel
theorem dL_law_1532 : decode cL_law 1532 = .ok (.iadd, 1) := by decide +kernel
theorem dL_law_1533 : decode cL_law 1533 = .ok (.iaload, 1) := by decide +kernel
theorem dL_law_1534 : decode cL_law 1534 = .ok (.aload_n 0, 1) := by decide +kernel
theorem dL_law_1535 : decode cL_law 1535 = .ok (.iload 4, 2) := by decide +kernel
theorem dL_law_1537 : decode cL_law 1537 = .ok (.iconst 4, 1) := by decide +kernel
theorem dL_law_1538 : decode cL_law 1538 = .ok (.iadd, 1) := by decide +kernel
theorem dL_law_1539 : decode cL_law 1539 = .ok (.iaload, 1) := by decide +kernel
theorem dL_law_1540 : decode cL_law 1540 = .ok (.aload_n 0, 1) := by decide +kernel
theorem dL_law_1541 : decode cL_law 1541 = .ok (.iload 4, 2) := by decide +kernel
theorem dL_law_1543 : decode cL_law 1543 = .ok (.iconst 5, 1) := by decide +kernel
theorem dL_law_1544 : decode cL_law 1544 = .ok (.iadd, 1) := by decide +kernel
theorem dL_law_1545 : decode cL_law 1545 = .ok (.iaload, 1) := by decide +kernel
theorem dL_law_1546 : decode cL_law 1546 = .ok (.invokevirtual 185, 3) := by decide +kernel
theorem dL_law_1549 : decode cL_law 1549 = .ok (.if_icmp .eq 156, 3) := by decide +kernel
theorem dL_law_1552 : decode cL_law 1552 = .ok (.iconst 0, 1) := by decide +kernel
theorem dL_law_1553 : decode cL_law 1553 = .ok (.ireturn, 1) := by decide +kernel
theorem dL_law_1554 : decode cL_law 1554 = .ok (.aload_n 1, 1) := by decide +kernel
theorem dL_law_1555 : decode cL_law 1555 = .ok (.aload_n 0, 1) := by decide +kernel
theorem dL_law_1556 : decode cL_law 1556 = .ok (.iload 4, 2) := by decide +kernel
theorem dL_law_1558 : decode cL_law 1558 = .ok (.iconst 1, 1) := by decide +kernel
theorem dL_law_1559 : decode cL_law 1559 = .ok (.iadd, 1) := by decide +kernel
theorem dL_law_1560 : decode cL_law 1560 = .ok (.iaload, 1) := by decide +kernel
theorem dL_law_1561 : decode cL_law 1561 = .ok (.invokevirtual 186, 3) := by decide +kernel
theorem dL_law_1564 : decode cL_law 1564 = .ok (.aload_n 2, 1) := by decide +kernel
theorem dL_law_1565 : decode cL_law 1565 = .ok (.aload_n 0, 1) := by decide +kernel
theorem dL_law_1566 : decode cL_law 1566 = .ok (.iload 4, 2) := by decide +kernel
theorem dL_law_1568 : decode cL_law 1568 = .ok (.iconst 1, 1) := by decide +kernel
theorem dL_law_1569 : decode cL_law 1569 = .ok (.iadd, 1) := by decide +kernel
theorem dL_law_1570 : decode cL_law 1570 = .ok (.iaload, 1) := by decide +kernel
theorem dL_law_1571 : decode cL_law 1571 = .ok (.invokevirtual 189, 3) := by decide +kernel
theorem dL_law_1574 : decode cL_law 1574 = .ok (.if_icmp .eq 131, 3) := by decide +kernel
theorem dL_law_1577 : decode cL_law 1577 = .ok (.iconst 0, 1) := by decide +kernel
theorem dL_law_1578 : decode cL_law 1578 = .ok (.ireturn, 1) := by decide +kernel
theorem dL_law_1579 : decode cL_law 1579 = .ok (.aload_n 1, 1) := by decide +kernel
theorem dL_law_1580 : decode cL_law 1580 = .ok (.invokevirtual 190, 3) := by decide +kernel
theorem dL_law_1583 : decode cL_law 1583 = .ok (.aload_n 2, 1) := by decide +kernel
theorem dL_law_1584 : decode cL_law 1584 = .ok (.invokevirtual 193, 3) := by decide +kernel
theorem dL_law_1587 : decode cL_law 1587 = .ok (.if_icmp .eq 118, 3) := by decide +kernel
theorem dL_law_1590 : decode cL_law 1590 = .ok (.iconst 0, 1) := by decide +kernel
theorem dL_law_1591 : decode cL_law 1591 = .ok (.ireturn, 1) := by decide +kernel
theorem dL_law_1592 : decode cL_law 1592 = .ok (.aload_n 1, 1) := by decide +kernel
theorem dL_law_1593 : decode cL_law 1593 = .ok (.aload_n 0, 1) := by decide +kernel
theorem dL_law_1594 : decode cL_law 1594 = .ok (.iload 4, 2) := by decide +kernel
theorem dL_law_1596 : decode cL_law 1596 = .ok (.iconst 1, 1) := by decide +kernel
theorem dL_law_1597 : decode cL_law 1597 = .ok (.iadd, 1) := by decide +kernel
theorem dL_law_1598 : decode cL_law 1598 = .ok (.iaload, 1) := by decide +kernel
theorem dL_law_1599 : decode cL_law 1599 = .ok (.invokevirtual 194, 3) := by decide +kernel
theorem dL_law_1602 : decode cL_law 1602 = .ok (.aload_n 2, 1) := by decide +kernel
theorem dL_law_1603 : decode cL_law 1603 = .ok (.aload_n 0, 1) := by decide +kernel
theorem dL_law_1604 : decode cL_law 1604 = .ok (.iload 4, 2) := by decide +kernel
theorem dL_law_1606 : decode cL_law 1606 = .ok (.iconst 1, 1) := by decide +kernel
theorem dL_law_1607 : decode cL_law 1607 = .ok (.iadd, 1) := by decide +kernel
theorem dL_law_1608 : decode cL_law 1608 = .ok (.iaload, 1) := by decide +kernel
theorem dL_law_1609 : decode cL_law 1609 = .ok (.invokevirtual 197, 3) := by decide +kernel
theorem dL_law_1612 : decode cL_law 1612 = .ok (.if_icmp .eq 93, 3) := by decide +kernel
theorem dL_law_1615 : decode cL_law 1615 = .ok (.iconst 0, 1) := by decide +kernel
theorem dL_law_1616 : decode cL_law 1616 = .ok (.ireturn, 1) := by decide +kernel
theorem dL_law_1617 : decode cL_law 1617 = .ok (.aload_n 1, 1) := by decide +kernel
theorem dL_law_1618 : decode cL_law 1618 = .ok (.aload_n 0, 1) := by decide +kernel
theorem dL_law_1619 : decode cL_law 1619 = .ok (.iload 4, 2) := by decide +kernel
theorem dL_law_1621 : decode cL_law 1621 = .ok (.iconst 1, 1) := by decide +kernel
theorem dL_law_1622 : decode cL_law 1622 = .ok (.iadd, 1) := by decide +kernel
theorem dL_law_1623 : decode cL_law 1623 = .ok (.iaload, 1) := by decide +kernel
theorem dL_law_1624 : decode cL_law 1624 = .ok (.aload_n 0, 1) := by decide +kernel
theorem dL_law_1625 : decode cL_law 1625 = .ok (.iload 4, 2) := by decide +kernel
theorem dL_law_1627 : decode cL_law 1627 = .ok (.iconst 2, 1) := by decide +kernel
theorem dL_law_1628 : decode cL_law 1628 = .ok (.iadd, 1) := by decide +kernel
theorem dL_law_1629 : decode cL_law 1629 = .ok (.iaload, 1) := by decide +kernel
theorem dL_law_1630 : decode cL_law 1630 = .ok (.invokevirtual 198, 3) := by decide +kernel
theorem dL_law_1633 : decode cL_law 1633 = .ok (.aload_n 2, 1) := by decide +kernel
theorem dL_law_1634 : decode cL_law 1634 = .ok (.aload_n 0, 1) := by decide +kernel
theorem dL_law_1635 : decode cL_law 1635 = .ok (.iload 4, 2) := by decide +kernel
theorem dL_law_1637 : decode cL_law 1637 = .ok (.iconst 1, 1) := by decide +kernel
theorem dL_law_1638 : decode cL_law 1638 = .ok (.iadd, 1) := by decide +kernel
theorem dL_law_1639 : decode cL_law 1639 = .ok (.iaload, 1) := by decide +kernel
theorem dL_law_1640 : decode cL_law 1640 = .ok (.aload_n 0, 1) := by decide +kernel
theorem dL_law_1641 : decode cL_law 1641 = .ok (.iload 4, 2) := by decide +kernel
theorem dL_law_1643 : decode cL_law 1643 = .ok (.iconst 2, 1) := by decide +kernel
theorem dL_law_1644 : decode cL_law 1644 = .ok (.iadd, 1) := by decide +kernel
theorem dL_law_1645 : decode cL_law 1645 = .ok (.iaload, 1) := by decide +kernel
theorem dL_law_1646 : decode cL_law 1646 = .ok (.invokevirtual 202, 3) := by decide +kernel
theorem dL_law_1649 : decode cL_law 1649 = .ok (.if_icmp .eq 56, 3) := by decide +kernel
theorem dL_law_1652 : decode cL_law 1652 = .ok (.iconst 0, 1) := by decide +kernel
theorem dL_law_1653 : decode cL_law 1653 = .ok (.ireturn, 1) := by decide +kernel
theorem dL_law_1654 : decode cL_law 1654 = .ok (.aload_n 1, 1) := by decide +kernel
theorem dL_law_1655 : decode cL_law 1655 = .ok (.aload_n 0, 1) := by decide +kernel
theorem dL_law_1656 : decode cL_law 1656 = .ok (.iload 4, 2) := by decide +kernel
theorem dL_law_1658 : decode cL_law 1658 = .ok (.iconst 1, 1) := by decide +kernel
theorem dL_law_1659 : decode cL_law 1659 = .ok (.iadd, 1) := by decide +kernel
theorem dL_law_1660 : decode cL_law 1660 = .ok (.iaload, 1) := by decide +kernel
theorem dL_law_1661 : decode cL_law 1661 = .ok (.invokevirtual 203, 3) := by decide +kernel
theorem dL_law_1664 : decode cL_law 1664 = .ok (.aload_n 2, 1) := by decide +kernel
theorem dL_law_1665 : decode cL_law 1665 = .ok (.aload_n 0, 1) := by decide +kernel
theorem dL_law_1666 : decode cL_law 1666 = .ok (.iload 4, 2) := by decide +kernel
theorem dL_law_1668 : decode cL_law 1668 = .ok (.iconst 1, 1) := by decide +kernel
theorem dL_law_1669 : decode cL_law 1669 = .ok (.iadd, 1) := by decide +kernel
theorem dL_law_1670 : decode cL_law 1670 = .ok (.iaload, 1) := by decide +kernel
theorem dL_law_1671 : decode cL_law 1671 = .ok (.invokevirtual 206, 3) := by decide +kernel
theorem dL_law_1674 : decode cL_law 1674 = .ok (.if_icmp .eq 31, 3) := by decide +kernel
theorem dL_law_1677 : decode cL_law 1677 = .ok (.iconst 0, 1) := by decide +kernel
theorem dL_law_1678 : decode cL_law 1678 = .ok (.ireturn, 1) := by decide +kernel
theorem dL_law_1679 : decode cL_law 1679 = .ok (.aload_n 1, 1) := by decide +kernel
theorem dL_law_1680 : decode cL_law 1680 = .ok (.invokevirtual 207, 3) := by decide +kernel
theorem dL_law_1683 : decode cL_law 1683 = .ok (.aload_n 2, 1) := by decide +kernel
theorem dL_law_1684 : decode cL_law 1684 = .ok (.invokevirtual 210, 3) := by decide +kernel
theorem dL_law_1687 : decode cL_law 1687 = .ok (.if_icmp .eq 18, 3) := by decide +kernel
theorem dL_law_1690 : decode cL_law 1690 = .ok (.iconst 0, 1) := by decide +kernel
theorem dL_law_1691 : decode cL_law 1691 = .ok (.ireturn, 1) := by decide +kernel
theorem dL_law_1692 : decode cL_law 1692 = .ok (.aload_n 1, 1) := by decide +kernel
theorem dL_law_1693 : decode cL_law 1693 = .ok (.invokevirtual 211, 3) := by decide +kernel
theorem dL_law_1696 : decode cL_law 1696 = .ok (.aload_n 2, 1) := by decide +kernel
theorem dL_law_1697 : decode cL_law 1697 = .ok (.invokevirtual 214, 3) := by decide +kernel
theorem dL_law_1700 : decode cL_law 1700 = .ok (.if_icmp .eq 5, 3) := by decide +kernel
theorem dL_law_1703 : decode cL_law 1703 = .ok (.iconst 0, 1) := by decide +kernel
theorem dL_law_1704 : decode cL_law 1704 = .ok (.ireturn, 1) := by decide +kernel
theorem dL_law_1705 : decode cL_law 1705 = .ok (.iinc 4 6, 3) := by decide +kernel
theorem dL_law_1708 : decode cL_law 1708 = .ok (.goto (-1685), 3) := by decide +kernel
theorem dL_law_1711 : decode cL_law 1711 = .ok (.iconst 1, 1) := by decide +kernel
theorem dL_law_1712 : decode cL_law 1712 = .ok (.ireturn, 1) := by decide +kernel
def s_L_law_1705 (L9 : Nat) (xs9 : Nat → Int32) (k23 : Nat → Nat → Nat → Int32 → aH → Nat → Nat → aP) (l1 : Nat) (l2 : Nat) (l3 : Nat) (l4 : Int32) (h : aH) (c9 z9 : Nat) : aP :=
  k23 l1 l2 l3 (l4 + 6) h c9 z9
def s_L_law_1692 (L9 : Nat) (xs9 : Nat → Int32) (k23 : Nat → Nat → Nat → Int32 → aH → Nat → Nat → aP) (l1 : Nat) (l2 : Nat) (l3 : Nat) (l4 : Int32) (h : aH) (c9 z9 : Nat) : aP :=
  kO h l1 11 (cI (s_X11_trouble l1 h) fun x1693 h1693 => ck c9 z9 (kO h1693 l2 14 (cI (s_X14_trouble l2 h1693) fun x1697 h1697 => ck c9 z9 (if x1693 = x1697 then (s_L_law_1705 L9 xs9 k23 l1 l2 l3 l4 h1697 c9 z9) else (wE c9 z9 (rtZ 0 h1697))))))
def s_L_law_1679 (L9 : Nat) (xs9 : Nat → Int32) (k23 : Nat → Nat → Nat → Int32 → aH → Nat → Nat → aP) (l1 : Nat) (l2 : Nat) (l3 : Nat) (l4 : Int32) (h : aH) (c9 z9 : Nat) : aP :=
  kO h l1 11 (dI (s_X11_breaks l1 h) fun x1680 h1680 n1680 y1680 => ck (c9 + n1680) (z9 + y1680) (kO h1680 l2 14 (cI (s_X14_breaks l2 h1680) fun x1684 h1684 => ck (c9 + n1680) (z9 + y1680) (if x1680 = x1684 then (s_L_law_1705 L9 xs9 k23 l1 l2 l3 l4 h1684 (c9 + n1680) (z9 + y1680)) else (wE (c9 + n1680) (z9 + y1680) (rtZ 0 h1684))))))
def s_L_law_1654 (L9 : Nat) (xs9 : Nat → Int32) (k23 : Nat → Nat → Nat → Int32 → aH → Nat → Nat → aP) (l1 : Nat) (l2 : Nat) (l3 : Nat) (l4 : Int32) (h : aH) (c9 z9 : Nat) : aP :=
  (sX L9 xs9 (l4 + 1)).bind fun x1660 => kO h l1 11 (dI (s_X11_proved l1 x1660 h) fun x1661 h1661 n1661 y1661 => ck (c9 + n1661) (z9 + y1661) ((sX L9 xs9 (l4 + 1)).bind fun x1670 => kO h1661 l2 14 (cI (s_X14_proved l2 x1670 h1661) fun x1671 h1671 => ck (c9 + n1661) (z9 + y1661) (if x1661 = x1671 then (s_L_law_1705 L9 xs9 k23 l1 l2 l3 l4 h1671 (c9 + n1661) (z9 + y1661)) else (wE (c9 + n1661) (z9 + y1661) (rtZ 0 h1671))))))
def s_L_law_1617 (L9 : Nat) (xs9 : Nat → Int32) (k23 : Nat → Nat → Nat → Int32 → aH → Nat → Nat → aP) (l1 : Nat) (l2 : Nat) (l3 : Nat) (l4 : Int32) (h : aH) (c9 z9 : Nat) : aP :=
  (sX L9 xs9 (l4 + 1)).bind fun x1623 => (sX L9 xs9 (l4 + 2)).bind fun x1629 => kO h l1 11 (cI (s_X11_claim l1 x1623 x1629 h) fun x1630 h1630 => ck c9 z9 ((sX L9 xs9 (l4 + 1)).bind fun x1639 => (sX L9 xs9 (l4 + 2)).bind fun x1645 => kO h1630 l2 14 (cI (s_X14_claim l2 x1639 x1645 h1630) fun x1646 h1646 => ck c9 z9 (if x1630 = x1646 then (s_L_law_1705 L9 xs9 k23 l1 l2 l3 l4 h1646 c9 z9) else (wE c9 z9 (rtZ 0 h1646))))))
def s_L_law_1592 (L9 : Nat) (xs9 : Nat → Int32) (k23 : Nat → Nat → Nat → Int32 → aH → Nat → Nat → aP) (l1 : Nat) (l2 : Nat) (l3 : Nat) (l4 : Int32) (h : aH) (c9 z9 : Nat) : aP :=
  (sX L9 xs9 (l4 + 1)).bind fun x1598 => kO h l1 11 (cI (s_X11_walk l1 x1598 h) fun x1599 h1599 => ck c9 z9 ((sX L9 xs9 (l4 + 1)).bind fun x1608 => kO h1599 l2 14 (cI (s_X14_walk l2 x1608 h1599) fun x1609 h1609 => ck c9 z9 (if x1599 = x1609 then (s_L_law_1705 L9 xs9 k23 l1 l2 l3 l4 h1609 c9 z9) else (wE c9 z9 (rtZ 0 h1609))))))
def s_L_law_1579 (L9 : Nat) (xs9 : Nat → Int32) (k23 : Nat → Nat → Nat → Int32 → aH → Nat → Nat → aP) (l1 : Nat) (l2 : Nat) (l3 : Nat) (l4 : Int32) (h : aH) (c9 z9 : Nat) : aP :=
  kO h l1 11 (dI (s_X11_strays l1 h) fun x1580 h1580 n1580 y1580 => ck (c9 + n1580) (z9 + y1580) (kO h1580 l2 14 (cI (s_X14_strays l2 h1580) fun x1584 h1584 => ck (c9 + n1580) (z9 + y1580) (if x1580 = x1584 then (s_L_law_1705 L9 xs9 k23 l1 l2 l3 l4 h1584 (c9 + n1580) (z9 + y1580)) else (wE (c9 + n1580) (z9 + y1580) (rtZ 0 h1584))))))
def s_L_law_1554 (L9 : Nat) (xs9 : Nat → Int32) (k23 : Nat → Nat → Nat → Int32 → aH → Nat → Nat → aP) (l1 : Nat) (l2 : Nat) (l3 : Nat) (l4 : Int32) (h : aH) (c9 z9 : Nat) : aP :=
  (sX L9 xs9 (l4 + 1)).bind fun x1560 => kO h l1 11 (cI (s_X11_coded l1 x1560 h) fun x1561 h1561 => ck c9 z9 ((sX L9 xs9 (l4 + 1)).bind fun x1570 => kO h1561 l2 14 (cI (s_X14_coded l2 x1570 h1561) fun x1571 h1571 => ck c9 z9 (if x1561 = x1571 then (s_L_law_1705 L9 xs9 k23 l1 l2 l3 l4 h1571 c9 z9) else (wE c9 z9 (rtZ 0 h1571))))))
def s_L_law_1481 (L9 : Nat) (xs9 : Nat → Int32) (k23 : Nat → Nat → Nat → Int32 → aH → Nat → Nat → aP) (l1 : Nat) (l2 : Nat) (l3 : Nat) (l4 : Int32) (h : aH) (c9 z9 : Nat) : aP :=
  (sX L9 xs9 (l4 + 1)).bind fun x1487 => (sX L9 xs9 (l4 + 2)).bind fun x1493 => (sX L9 xs9 (l4 + 3)).bind fun x1499 => (sX L9 xs9 (l4 + 4)).bind fun x1505 => (sX L9 xs9 (l4 + 5)).bind fun x1511 => kO h l1 11 (cI (s_X11_code l1 x1487 x1493 x1499 x1505 x1511 h) fun x1512 h1512 => ck c9 z9 ((sX L9 xs9 (l4 + 1)).bind fun x1521 => (sX L9 xs9 (l4 + 2)).bind fun x1527 => (sX L9 xs9 (l4 + 3)).bind fun x1533 => (sX L9 xs9 (l4 + 4)).bind fun x1539 => (sX L9 xs9 (l4 + 5)).bind fun x1545 => kO h1512 l2 14 (cI (s_X14_code l2 x1521 x1527 x1533 x1539 x1545 h1512) fun x1546 h1546 => ck c9 z9 (if x1512 = x1546 then (s_L_law_1705 L9 xs9 k23 l1 l2 l3 l4 h1546 c9 z9) else (wE c9 z9 (rtZ 0 h1546))))))
def s_L_law_1468 (L9 : Nat) (xs9 : Nat → Int32) (k23 : Nat → Nat → Nat → Int32 → aH → Nat → Nat → aP) (l1 : Nat) (l2 : Nat) (l3 : Nat) (l4 : Int32) (h : aH) (c9 z9 : Nat) : aP :=
  kO h l1 11 (cI (s_X11_anew l1 h) fun x1469 h1469 => ck c9 z9 (kO h1469 l2 14 (cI (s_X14_anew l2 h1469) fun x1473 h1473 => ck c9 z9 (if x1469 = x1473 then (s_L_law_1705 L9 xs9 k23 l1 l2 l3 l4 h1473 c9 z9) else (wE c9 z9 (rtZ 0 h1473))))))
def s_L_law_1443 (L9 : Nat) (xs9 : Nat → Int32) (k23 : Nat → Nat → Nat → Int32 → aH → Nat → Nat → aP) (l1 : Nat) (l2 : Nat) (l3 : Nat) (l4 : Int32) (h : aH) (c9 z9 : Nat) : aP :=
  (sX L9 xs9 (l4 + 1)).bind fun x1449 => kO h l1 11 (dI (s_X11_probe l1 x1449 h) fun x1450 h1450 n1450 y1450 => ck (c9 + n1450) (z9 + y1450) ((sX L9 xs9 (l4 + 1)).bind fun x1459 => kO h1450 l2 14 (cI (s_X14_probe l2 x1459 h1450) fun x1460 h1460 => ck (c9 + n1450) (z9 + y1450) (if x1450 = x1460 then (s_L_law_1705 L9 xs9 k23 l1 l2 l3 l4 h1460 (c9 + n1450) (z9 + y1450)) else (wE (c9 + n1450) (z9 + y1450) (rtZ 0 h1460))))))
def s_L_law_1430 (L9 : Nat) (xs9 : Nat → Int32) (k23 : Nat → Nat → Nat → Int32 → aH → Nat → Nat → aP) (l1 : Nat) (l2 : Nat) (l3 : Nat) (l4 : Int32) (h : aH) (c9 z9 : Nat) : aP :=
  kO h l1 11 (dI (s_X11_fit l1 h) fun x1431 h1431 n1431 y1431 => ck (c9 + n1431) (z9 + y1431) (kO h1431 l2 14 (cI (s_X14_fit l2 h1431) fun x1435 h1435 => ck (c9 + n1431) (z9 + y1431) (if x1431 = x1435 then (s_L_law_1705 L9 xs9 k23 l1 l2 l3 l4 h1435 (c9 + n1431) (z9 + y1431)) else (wE (c9 + n1431) (z9 + y1431) (rtZ 0 h1435))))))
def s_L_law_1405 (L9 : Nat) (xs9 : Nat → Int32) (k23 : Nat → Nat → Nat → Int32 → aH → Nat → Nat → aP) (l1 : Nat) (l2 : Nat) (l3 : Nat) (l4 : Int32) (h : aH) (c9 z9 : Nat) : aP :=
  (sX L9 xs9 (l4 + 1)).bind fun x1411 => kO h l1 11 (dI (s_X11_known l1 x1411 h) fun x1412 h1412 n1412 y1412 => ck (c9 + n1412) (z9 + y1412) ((sX L9 xs9 (l4 + 1)).bind fun x1421 => kO h1412 l2 14 (cI (s_X14_known l2 x1421 h1412) fun x1422 h1422 => ck (c9 + n1412) (z9 + y1412) (if x1412 = x1422 then (s_L_law_1705 L9 xs9 k23 l1 l2 l3 l4 h1422 (c9 + n1412) (z9 + y1412)) else (wE (c9 + n1412) (z9 + y1412) (rtZ 0 h1422))))))
def s_L_law_1392 (L9 : Nat) (xs9 : Nat → Int32) (k23 : Nat → Nat → Nat → Int32 → aH → Nat → Nat → aP) (l1 : Nat) (l2 : Nat) (l3 : Nat) (l4 : Int32) (h : aH) (c9 z9 : Nat) : aP :=
  kO h l1 11 (dI (s_X11_named l1 h) fun x1393 h1393 n1393 y1393 => ck (c9 + n1393) (z9 + y1393) (kO h1393 l2 14 (cI (s_X14_named l2 h1393) fun x1397 h1397 => ck (c9 + n1393) (z9 + y1393) (if x1393 = x1397 then (s_L_law_1705 L9 xs9 k23 l1 l2 l3 l4 h1397 (c9 + n1393) (z9 + y1393)) else (wE (c9 + n1393) (z9 + y1393) (rtZ 0 h1397))))))
def s_L_law_1384 (L9 : Nat) (xs9 : Nat → Int32) (k23 : Nat → Nat → Nat → Int32 → aH → Nat → Nat → aP) (l1 : Nat) (l2 : Nat) (l3 : Nat) (l4 : Int32) (s0 : Int32) (s1 : Int32) (s2 : Nat) (s3 : Int32) (h : aH) (c9 z9 : Nat) : aP :=
  kO h s2 14 (cI (s_X14_guess s2 s1 s0 h) fun x1384 h1384 => ck c9 z9 (if s3 = x1384 then (s_L_law_1705 L9 xs9 k23 l1 l2 l3 l4 h1384 c9 z9) else (wE c9 z9 (rtZ 0 h1384))))
def s_L_law_1360 (L9 : Nat) (xs9 : Nat → Int32) (k23 : Nat → Nat → Nat → Int32 → aH → Nat → Nat → aP) (l1 : Nat) (l2 : Nat) (l3 : Nat) (l4 : Int32) (s0 : Int32) (s1 : Int32) (s2 : Nat) (h : aH) (c9 z9 : Nat) : aP :=
  kO h s2 11 (dI (s_X11_guess s2 s1 s0 h) fun x1360 h1360 n1360 y1360 => ck (c9 + n1360) (z9 + y1360) ((sX L9 xs9 (l4 + 1)).bind fun x1369 => (sX L9 xs9 (l4 + 2)).bind fun x1375 => if x1375 = 0 then (s_L_law_1384 L9 xs9 k23 l1 l2 l3 l4 0 x1369 l2 x1360 h1360 (c9 + n1360) (z9 + y1360)) else (s_L_law_1384 L9 xs9 k23 l1 l2 l3 l4 1 x1369 l2 x1360 h1360 (c9 + n1360) (z9 + y1360))))
def s_L_law_1339 (L9 : Nat) (xs9 : Nat → Int32) (k23 : Nat → Nat → Nat → Int32 → aH → Nat → Nat → aP) (l1 : Nat) (l2 : Nat) (l3 : Nat) (l4 : Int32) (h : aH) (c9 z9 : Nat) : aP :=
  (sX L9 xs9 (l4 + 1)).bind fun x1345 => (sX L9 xs9 (l4 + 2)).bind fun x1351 => if x1351 = 0 then (s_L_law_1360 L9 xs9 k23 l1 l2 l3 l4 0 x1345 l1 h c9 z9) else (s_L_law_1360 L9 xs9 k23 l1 l2 l3 l4 1 x1345 l1 h c9 z9)
def s_L_law_1314 (L9 : Nat) (xs9 : Nat → Int32) (k23 : Nat → Nat → Nat → Int32 → aH → Nat → Nat → aP) (l1 : Nat) (l2 : Nat) (l3 : Nat) (l4 : Int32) (h : aH) (c9 z9 : Nat) : aP :=
  (sX L9 xs9 (l4 + 1)).bind fun x1320 => kO h l1 11 (dI (s_X11_canBe l1 x1320 h) fun x1321 h1321 n1321 y1321 => ck (c9 + n1321) (z9 + y1321) ((sX L9 xs9 (l4 + 1)).bind fun x1330 => kO h1321 l2 14 (cI (s_X14_canBe l2 x1330 h1321) fun x1331 h1331 => ck (c9 + n1321) (z9 + y1321) (if x1321 = x1331 then (s_L_law_1705 L9 xs9 k23 l1 l2 l3 l4 h1331 (c9 + n1321) (z9 + y1321)) else (wE (c9 + n1321) (z9 + y1321) (rtZ 0 h1331))))))
def s_L_law_1289 (L9 : Nat) (xs9 : Nat → Int32) (k23 : Nat → Nat → Nat → Int32 → aH → Nat → Nat → aP) (l1 : Nat) (l2 : Nat) (l3 : Nat) (l4 : Int32) (h : aH) (c9 z9 : Nat) : aP :=
  (sX L9 xs9 (l4 + 1)).bind fun x1295 => kO h l1 11 (dI (s_X11_can l1 x1295 h) fun x1296 h1296 n1296 y1296 => ck (c9 + n1296) (z9 + y1296) ((sX L9 xs9 (l4 + 1)).bind fun x1305 => kO h1296 l2 14 (cI (s_X14_can l2 x1305 h1296) fun x1306 h1306 => ck (c9 + n1296) (z9 + y1296) (if x1296 = x1306 then (s_L_law_1705 L9 xs9 k23 l1 l2 l3 l4 h1306 (c9 + n1296) (z9 + y1296)) else (wE (c9 + n1296) (z9 + y1296) (rtZ 0 h1306))))))
def s_L_law_1240 (L9 : Nat) (xs9 : Nat → Int32) (k23 : Nat → Nat → Nat → Int32 → aH → Nat → Nat → aP) (l1 : Nat) (l2 : Nat) (l3 : Nat) (l4 : Int32) (h : aH) (c9 z9 : Nat) : aP :=
  (sX L9 xs9 (l4 + 1)).bind fun x1246 => (sX L9 xs9 (l4 + 2)).bind fun x1252 => (sX L9 xs9 (l4 + 3)).bind fun x1258 => kO h l1 11 (cI (s_X11_told l1 x1246 x1252 x1258 h) fun x1259 h1259 => ck c9 z9 ((sX L9 xs9 (l4 + 1)).bind fun x1268 => (sX L9 xs9 (l4 + 2)).bind fun x1274 => (sX L9 xs9 (l4 + 3)).bind fun x1280 => kO h1259 l2 14 (cI (s_X14_told l2 x1268 x1274 x1280 h1259) fun x1281 h1281 => ck c9 z9 (if x1259 = x1281 then (s_L_law_1705 L9 xs9 k23 l1 l2 l3 l4 h1281 c9 z9) else (wE c9 z9 (rtZ 0 h1281))))))
def s_L_law_1215 (L9 : Nat) (xs9 : Nat → Int32) (k23 : Nat → Nat → Nat → Int32 → aH → Nat → Nat → aP) (l1 : Nat) (l2 : Nat) (l3 : Nat) (l4 : Int32) (h : aH) (c9 z9 : Nat) : aP :=
  (sX L9 xs9 (l4 + 1)).bind fun x1221 => kO h l1 11 (cI (s_X11_tick l1 x1221 h) fun x1222 h1222 => ck c9 z9 ((sX L9 xs9 (l4 + 1)).bind fun x1231 => kO h1222 l2 14 (cI (s_X14_tick l2 x1231 h1222) fun x1232 h1232 => ck c9 z9 (if x1222 = x1232 then (s_L_law_1705 L9 xs9 k23 l1 l2 l3 l4 h1232 c9 z9) else (wE c9 z9 (rtZ 0 h1232))))))
def s_L_law_1154 (L9 : Nat) (xs9 : Nat → Int32) (k23 : Nat → Nat → Nat → Int32 → aH → Nat → Nat → aP) (l1 : Nat) (l2 : Nat) (l3 : Nat) (l4 : Int32) (h : aH) (c9 z9 : Nat) : aP :=
  (sX L9 xs9 (l4 + 1)).bind fun x1160 => (sX L9 xs9 (l4 + 2)).bind fun x1166 => (sX L9 xs9 (l4 + 3)).bind fun x1172 => (sX L9 xs9 (l4 + 4)).bind fun x1178 => kO h l1 11 (cI (s_X11_stays l1 x1160 x1166 x1172 x1178 h) fun x1179 h1179 => ck c9 z9 ((sX L9 xs9 (l4 + 1)).bind fun x1188 => (sX L9 xs9 (l4 + 2)).bind fun x1194 => (sX L9 xs9 (l4 + 3)).bind fun x1200 => (sX L9 xs9 (l4 + 4)).bind fun x1206 => kO h1179 l2 14 (cI (s_X14_stays l2 x1188 x1194 x1200 x1206 h1179) fun x1207 h1207 => ck c9 z9 (if x1179 = x1207 then (s_L_law_1705 L9 xs9 k23 l1 l2 l3 l4 h1207 c9 z9) else (wE c9 z9 (rtZ 0 h1207))))))
def s_L_law_1145 (L9 : Nat) (xs9 : Nat → Int32) (k23 : Nat → Nat → Nat → Int32 → aH → Nat → Nat → aP) (l1 : Nat) (l2 : Nat) (l3 : Nat) (l4 : Int32) (s0 : Int32) (s1 : Int32) (s2 : Nat) (s3 : Int64) (h : aH) (c9 z9 : Nat) : aP :=
  kO h s2 14 (cJ (s_X14_gain s2 s1 s0 h) fun x1145 h1145 => ck c9 z9 (if (lg_cmp s3 x1145) = 0 then (s_L_law_1705 L9 xs9 k23 l1 l2 l3 l4 h1145 c9 z9) else (wE c9 z9 (rtZ 0 h1145))))
def s_L_law_1121 (L9 : Nat) (xs9 : Nat → Int32) (k23 : Nat → Nat → Nat → Int32 → aH → Nat → Nat → aP) (l1 : Nat) (l2 : Nat) (l3 : Nat) (l4 : Int32) (s0 : Int32) (s1 : Int32) (s2 : Nat) (h : aH) (c9 z9 : Nat) : aP :=
  kO h s2 11 (cJ (s_X11_gain s2 s1 s0 h) fun x1121 h1121 => ck c9 z9 ((sX L9 xs9 (l4 + 1)).bind fun x1130 => (sX L9 xs9 (l4 + 2)).bind fun x1136 => if x1136 = 0 then (s_L_law_1145 L9 xs9 k23 l1 l2 l3 l4 0 x1130 l2 x1121 h1121 c9 z9) else (s_L_law_1145 L9 xs9 k23 l1 l2 l3 l4 1 x1130 l2 x1121 h1121 c9 z9)))
def s_L_law_1100 (L9 : Nat) (xs9 : Nat → Int32) (k23 : Nat → Nat → Nat → Int32 → aH → Nat → Nat → aP) (l1 : Nat) (l2 : Nat) (l3 : Nat) (l4 : Int32) (h : aH) (c9 z9 : Nat) : aP :=
  (sX L9 xs9 (l4 + 1)).bind fun x1106 => (sX L9 xs9 (l4 + 2)).bind fun x1112 => if x1112 = 0 then (s_L_law_1121 L9 xs9 k23 l1 l2 l3 l4 0 x1106 l1 h c9 z9) else (s_L_law_1121 L9 xs9 k23 l1 l2 l3 l4 1 x1106 l1 h c9 z9)
def s_L_law_1051 (L9 : Nat) (xs9 : Nat → Int32) (k23 : Nat → Nat → Nat → Int32 → aH → Nat → Nat → aP) (l1 : Nat) (l2 : Nat) (l3 : Nat) (l4 : Int32) (h : aH) (c9 z9 : Nat) : aP :=
  (sX L9 xs9 (l4 + 1)).bind fun x1057 => (sX L9 xs9 (l4 + 2)).bind fun x1063 => (sX L9 xs9 (l4 + 3)).bind fun x1069 => kO h l1 11 (cI (s_X11_place l1 x1057 x1063 x1069 h) fun x1070 h1070 => ck c9 z9 ((sX L9 xs9 (l4 + 1)).bind fun x1079 => (sX L9 xs9 (l4 + 2)).bind fun x1085 => (sX L9 xs9 (l4 + 3)).bind fun x1091 => kO h1070 l2 14 (cI (s_X14_place l2 x1079 x1085 x1091 h1070) fun x1092 h1092 => ck c9 z9 (if x1070 = x1092 then (s_L_law_1705 L9 xs9 k23 l1 l2 l3 l4 h1092 c9 z9) else (wE c9 z9 (rtZ 0 h1092))))))
def s_L_law_1026 (L9 : Nat) (xs9 : Nat → Int32) (k23 : Nat → Nat → Nat → Int32 → aH → Nat → Nat → aP) (l1 : Nat) (l2 : Nat) (l3 : Nat) (l4 : Int32) (h : aH) (c9 z9 : Nat) : aP :=
  (sX L9 xs9 (l4 + 1)).bind fun x1032 => kO h l1 11 (cI (s_X11_form l1 x1032 h) fun x1033 h1033 => ck c9 z9 ((sX L9 xs9 (l4 + 1)).bind fun x1042 => kO h1033 l2 14 (cI (s_X14_form l2 x1042 h1033) fun x1043 h1043 => ck c9 z9 (if x1033 = x1043 then (s_L_law_1705 L9 xs9 k23 l1 l2 l3 l4 h1043 c9 z9) else (wE c9 z9 (rtZ 0 h1043))))))
def s_L_law_1018 (L9 : Nat) (xs9 : Nat → Int32) (k23 : Nat → Nat → Nat → Int32 → aH → Nat → Nat → aP) (l1 : Nat) (l2 : Nat) (l3 : Nat) (l4 : Int32) (s0 : Int32) (s1 : Nat) (s2 : Int32) (h : aH) (c9 z9 : Nat) : aP :=
  kO h s1 14 (cI (s_X14_rank s1 s0 h) fun x1018 h1018 => ck c9 z9 (if s2 = x1018 then (s_L_law_1705 L9 xs9 k23 l1 l2 l3 l4 h1018 c9 z9) else (wE c9 z9 (rtZ 0 h1018))))
def s_L_law_1000 (L9 : Nat) (xs9 : Nat → Int32) (k23 : Nat → Nat → Nat → Int32 → aH → Nat → Nat → aP) (l1 : Nat) (l2 : Nat) (l3 : Nat) (l4 : Int32) (s0 : Int32) (s1 : Nat) (h : aH) (c9 z9 : Nat) : aP :=
  kO h s1 11 (cI (s_X11_rank s1 s0 h) fun x1000 h1000 => ck c9 z9 ((sX L9 xs9 (l4 + 1)).bind fun x1009 => if x1009 = 0 then (s_L_law_1018 L9 xs9 k23 l1 l2 l3 l4 0 l2 x1000 h1000 c9 z9) else (s_L_law_1018 L9 xs9 k23 l1 l2 l3 l4 1 l2 x1000 h1000 c9 z9)))
def s_L_law_985 (L9 : Nat) (xs9 : Nat → Int32) (k23 : Nat → Nat → Nat → Int32 → aH → Nat → Nat → aP) (l1 : Nat) (l2 : Nat) (l3 : Nat) (l4 : Int32) (h : aH) (c9 z9 : Nat) : aP :=
  (sX L9 xs9 (l4 + 1)).bind fun x991 => if x991 = 0 then (s_L_law_1000 L9 xs9 k23 l1 l2 l3 l4 0 l1 h c9 z9) else (s_L_law_1000 L9 xs9 k23 l1 l2 l3 l4 1 l1 h c9 z9)
def s_L_law_960 (L9 : Nat) (xs9 : Nat → Int32) (k23 : Nat → Nat → Nat → Int32 → aH → Nat → Nat → aP) (l1 : Nat) (l2 : Nat) (l3 : Nat) (l4 : Int32) (h : aH) (c9 z9 : Nat) : aP :=
  (sX L9 xs9 (l4 + 1)).bind fun x966 => kO h l1 11 (dI (s_X11_margin l1 x966 h) fun x967 h967 n967 y967 => ck (c9 + n967) (z9 + y967) ((sX L9 xs9 (l4 + 1)).bind fun x976 => kO h967 l2 14 (cI (s_X14_margin l2 x976 h967) fun x977 h977 => ck (c9 + n967) (z9 + y967) (if x967 = x977 then (s_L_law_1705 L9 xs9 k23 l1 l2 l3 l4 h977 (c9 + n967) (z9 + y967)) else (wE (c9 + n967) (z9 + y967) (rtZ 0 h977))))))
def s_L_law_880 (L9 : Nat) (xs9 : Nat → Int32) (k23 : Nat → Nat → Nat → Int32 → aH → Nat → Nat → aP) (l1 : Nat) (l2 : Nat) (l3 : Nat) (l4 : Int32) (h : aH) (c9 z9 : Nat) : aP :=
  (sX L9 xs9 (l4 + 1)).bind fun x886 => (sX L9 xs9 (l4 + 2)).bind fun x892 => (sX L9 xs9 (l4 + 3)).bind fun x898 => dI (s_L_worst l1 x886 x892 x898 l3 h) fun x900 h900 n900 y900 => ck (c9 + n900) (z9 + y900) ((sX L9 xs9 (l4 + 1)).bind fun x911 => (sX L9 xs9 (l4 + 2)).bind fun x917 => (sX L9 xs9 (l4 + 3)).bind fun x923 => kO h900 l2 14 (cI (s_X14_worst l2 x911 x917 x923 h900) fun x924 h924 => ck (c9 + n900) (z9 + y900) (kO h924 l2 14 (cI (s_X14_thrown l2 h924) fun x930 h930 => ck (c9 + n900) (z9 + y900) (if x930 = x900 then (if x900 = 0 then ((ldJ h930 (.ref l3) 0).bind fun x947 => if (lg_cmp x947 x924.toInt64) = 0 then (s_L_law_1705 L9 xs9 k23 l1 l2 l3 l4 h930 (c9 + n900) (z9 + y900)) else (wE (c9 + n900) (z9 + y900) (rtZ 0 h930))) else (s_L_law_1705 L9 xs9 k23 l1 l2 l3 l4 h930 (c9 + n900) (z9 + y900))) else (wE (c9 + n900) (z9 + y900) (rtZ 0 h930)))))))
def s_L_law_843 (L9 : Nat) (xs9 : Nat → Int32) (k23 : Nat → Nat → Nat → Int32 → aH → Nat → Nat → aP) (l1 : Nat) (l2 : Nat) (l3 : Nat) (l4 : Int32) (h : aH) (c9 z9 : Nat) : aP :=
  (sX L9 xs9 (l4 + 1)).bind fun x849 => (sX L9 xs9 (l4 + 2)).bind fun x855 => kO h l1 11 (dI (s_X11_bestLaw l1 x849 x855 h) fun x856 h856 n856 y856 => ck (c9 + n856) (z9 + y856) ((sX L9 xs9 (l4 + 1)).bind fun x865 => (sX L9 xs9 (l4 + 2)).bind fun x871 => kO h856 l2 14 (cI (s_X14_bestLaw l2 x865 x871 h856) fun x872 h872 => ck (c9 + n856) (z9 + y856) (if x856 = x872 then (s_L_law_1705 L9 xs9 k23 l1 l2 l3 l4 h872 (c9 + n856) (z9 + y856)) else (wE (c9 + n856) (z9 + y856) (rtZ 0 h872))))))
def s_L_law_806 (L9 : Nat) (xs9 : Nat → Int32) (k23 : Nat → Nat → Nat → Int32 → aH → Nat → Nat → aP) (l1 : Nat) (l2 : Nat) (l3 : Nat) (l4 : Int32) (h : aH) (c9 z9 : Nat) : aP :=
  (sX L9 xs9 (l4 + 1)).bind fun x812 => (sX L9 xs9 (l4 + 2)).bind fun x818 => kO h l1 11 (dI (s_X11_best l1 x812 x818 h) fun x819 h819 n819 y819 => ck (c9 + n819) (z9 + y819) ((sX L9 xs9 (l4 + 1)).bind fun x828 => (sX L9 xs9 (l4 + 2)).bind fun x834 => kO h819 l2 14 (cI (s_X14_best l2 x828 x834 h819) fun x835 h835 => ck (c9 + n819) (z9 + y819) (if x819 = x835 then (s_L_law_1705 L9 xs9 k23 l1 l2 l3 l4 h835 (c9 + n819) (z9 + y819)) else (wE (c9 + n819) (z9 + y819) (rtZ 0 h835))))))
def s_L_law_781 (L9 : Nat) (xs9 : Nat → Int32) (k23 : Nat → Nat → Nat → Int32 → aH → Nat → Nat → aP) (l1 : Nat) (l2 : Nat) (l3 : Nat) (l4 : Int32) (h : aH) (c9 z9 : Nat) : aP :=
  (sX L9 xs9 (l4 + 1)).bind fun x787 => kO h l1 11 (dI (s_X11_law l1 x787 h) fun x788 h788 n788 y788 => ck (c9 + n788) (z9 + y788) ((sX L9 xs9 (l4 + 1)).bind fun x797 => kO h788 l2 14 (cI (s_X14_law l2 x797 h788) fun x798 h798 => ck (c9 + n788) (z9 + y788) (if x788 = x798 then (s_L_law_1705 L9 xs9 k23 l1 l2 l3 l4 h798 (c9 + n788) (z9 + y788)) else (wE (c9 + n788) (z9 + y788) (rtZ 0 h798))))))
def s_L_law_756 (L9 : Nat) (xs9 : Nat → Int32) (k23 : Nat → Nat → Nat → Int32 → aH → Nat → Nat → aP) (l1 : Nat) (l2 : Nat) (l3 : Nat) (l4 : Int32) (h : aH) (c9 z9 : Nat) : aP :=
  (sX L9 xs9 (l4 + 1)).bind fun x762 => kO h l1 11 (dI (s_X11_ticks l1 x762 h) fun x763 h763 n763 y763 => ck (c9 + n763) (z9 + y763) ((sX L9 xs9 (l4 + 1)).bind fun x772 => kO h763 l2 14 (cI (s_X14_ticks l2 x772 h763) fun x773 h773 => ck (c9 + n763) (z9 + y763) (if x763 = x773 then (s_L_law_1705 L9 xs9 k23 l1 l2 l3 l4 h773 (c9 + n763) (z9 + y763)) else (wE (c9 + n763) (z9 + y763) (rtZ 0 h773))))))
def s_L_law_731 (L9 : Nat) (xs9 : Nat → Int32) (k23 : Nat → Nat → Nat → Int32 → aH → Nat → Nat → aP) (l1 : Nat) (l2 : Nat) (l3 : Nat) (l4 : Int32) (h : aH) (c9 z9 : Nat) : aP :=
  (sX L9 xs9 (l4 + 1)).bind fun x737 => kO h l1 11 (dI (s_X11_allowed l1 x737 h) fun x738 h738 n738 y738 => ck (c9 + n738) (z9 + y738) ((sX L9 xs9 (l4 + 1)).bind fun x747 => kO h738 l2 14 (cI (s_X14_allowed l2 x747 h738) fun x748 h748 => ck (c9 + n738) (z9 + y738) (if x738 = x748 then (s_L_law_1705 L9 xs9 k23 l1 l2 l3 l4 h748 (c9 + n738) (z9 + y738)) else (wE (c9 + n738) (z9 + y738) (rtZ 0 h748))))))
def s_L_law_706 (L9 : Nat) (xs9 : Nat → Int32) (k23 : Nat → Nat → Nat → Int32 → aH → Nat → Nat → aP) (l1 : Nat) (l2 : Nat) (l3 : Nat) (l4 : Int32) (h : aH) (c9 z9 : Nat) : aP :=
  (sX L9 xs9 (l4 + 1)).bind fun x712 => kO h l1 11 (dI (s_X11_layer l1 x712 h) fun x713 h713 n713 y713 => ck (c9 + n713) (z9 + y713) ((sX L9 xs9 (l4 + 1)).bind fun x722 => kO h713 l2 14 (cI (s_X14_layer l2 x722 h713) fun x723 h723 => ck (c9 + n713) (z9 + y713) (if x713 = x723 then (s_L_law_1705 L9 xs9 k23 l1 l2 l3 l4 h723 (c9 + n713) (z9 + y713)) else (wE (c9 + n713) (z9 + y713) (rtZ 0 h723))))))
def s_L_law_693 (L9 : Nat) (xs9 : Nat → Int32) (k23 : Nat → Nat → Nat → Int32 → aH → Nat → Nat → aP) (l1 : Nat) (l2 : Nat) (l3 : Nat) (l4 : Int32) (h : aH) (c9 z9 : Nat) : aP :=
  kO h l1 11 (dI (s_X11_safe l1 h) fun x694 h694 n694 y694 => ck (c9 + n694) (z9 + y694) (kO h694 l2 14 (cI (s_X14_safe l2 h694) fun x698 h698 => ck (c9 + n694) (z9 + y694) (if x694 = x698 then (s_L_law_1705 L9 xs9 k23 l1 l2 l3 l4 h698 (c9 + n694) (z9 + y694)) else (wE (c9 + n694) (z9 + y694) (rtZ 0 h698))))))
def s_L_law_632 (L9 : Nat) (xs9 : Nat → Int32) (k23 : Nat → Nat → Nat → Int32 → aH → Nat → Nat → aP) (l1 : Nat) (l2 : Nat) (l3 : Nat) (l4 : Int32) (h : aH) (c9 z9 : Nat) : aP :=
  (sX L9 xs9 (l4 + 1)).bind fun x638 => (sX L9 xs9 (l4 + 2)).bind fun x644 => (sX L9 xs9 (l4 + 3)).bind fun x650 => (sX L9 xs9 (l4 + 4)).bind fun x656 => kO h l1 11 (cI (s_X11_sight l1 x638 x644 x650 x656 h) fun x657 h657 => ck c9 z9 ((sX L9 xs9 (l4 + 1)).bind fun x666 => (sX L9 xs9 (l4 + 2)).bind fun x672 => (sX L9 xs9 (l4 + 3)).bind fun x678 => (sX L9 xs9 (l4 + 4)).bind fun x684 => kO h657 l2 14 (cI (s_X14_sight l2 x666 x672 x678 x684 h657) fun x685 h685 => ck c9 z9 (if x657 = x685 then (s_L_law_1705 L9 xs9 k23 l1 l2 l3 l4 h685 c9 z9) else (wE c9 z9 (rtZ 0 h685))))))
def s_L_law_583 (L9 : Nat) (xs9 : Nat → Int32) (k23 : Nat → Nat → Nat → Int32 → aH → Nat → Nat → aP) (l1 : Nat) (l2 : Nat) (l3 : Nat) (l4 : Int32) (h : aH) (c9 z9 : Nat) : aP :=
  (sX L9 xs9 (l4 + 1)).bind fun x589 => (sX L9 xs9 (l4 + 2)).bind fun x595 => (sX L9 xs9 (l4 + 3)).bind fun x601 => kO h l1 11 (cI (s_X11_next l1 x589 x595 x601 h) fun x602 h602 => ck c9 z9 ((sX L9 xs9 (l4 + 1)).bind fun x611 => (sX L9 xs9 (l4 + 2)).bind fun x617 => (sX L9 xs9 (l4 + 3)).bind fun x623 => kO h602 l2 14 (cI (s_X14_next_ l2 x611 x617 x623 h602) fun x624 h624 => ck c9 z9 (if x602 = x624 then (s_L_law_1705 L9 xs9 k23 l1 l2 l3 l4 h624 c9 z9) else (wE c9 z9 (rtZ 0 h624))))))
def s_L_law_546 (L9 : Nat) (xs9 : Nat → Int32) (k23 : Nat → Nat → Nat → Int32 → aH → Nat → Nat → aP) (l1 : Nat) (l2 : Nat) (l3 : Nat) (l4 : Int32) (h : aH) (c9 z9 : Nat) : aP :=
  (sX L9 xs9 (l4 + 1)).bind fun x552 => (sX L9 xs9 (l4 + 2)).bind fun x558 => kO h l1 11 (cI (s_X11_push l1 x552 x558 h) fun x559 h559 => ck c9 z9 ((sX L9 xs9 (l4 + 1)).bind fun x568 => (sX L9 xs9 (l4 + 2)).bind fun x574 => kO h559 l2 14 (cI (s_X14_push l2 x568 x574 h559) fun x575 h575 => ck c9 z9 (if x559 = x575 then (s_L_law_1705 L9 xs9 k23 l1 l2 l3 l4 h575 c9 z9) else (wE c9 z9 (rtZ 0 h575))))))
def s_L_law_509 (L9 : Nat) (xs9 : Nat → Int32) (k23 : Nat → Nat → Nat → Int32 → aH → Nat → Nat → aP) (l1 : Nat) (l2 : Nat) (l3 : Nat) (l4 : Int32) (h : aH) (c9 z9 : Nat) : aP :=
  (sX L9 xs9 (l4 + 1)).bind fun x515 => (sX L9 xs9 (l4 + 2)).bind fun x521 => kO h l1 11 (cI (s_X11_state l1 x515 x521 h) fun x522 h522 => ck c9 z9 ((sX L9 xs9 (l4 + 1)).bind fun x531 => (sX L9 xs9 (l4 + 2)).bind fun x537 => kO h522 l2 14 (cI (s_X14_state l2 x531 x537 h522) fun x538 h538 => ck c9 z9 (if x522 = x538 then (s_L_law_1705 L9 xs9 k23 l1 l2 l3 l4 h538 c9 z9) else (wE c9 z9 (rtZ 0 h538))))))
def s_L_law_460 (L9 : Nat) (xs9 : Nat → Int32) (k23 : Nat → Nat → Nat → Int32 → aH → Nat → Nat → aP) (l1 : Nat) (l2 : Nat) (l3 : Nat) (l4 : Int32) (h : aH) (c9 z9 : Nat) : aP :=
  (sX L9 xs9 (l4 + 1)).bind fun x466 => (sX L9 xs9 (l4 + 2)).bind fun x472 => (sX L9 xs9 (l4 + 3)).bind fun x478 => kO h l1 11 (cI (s_X11_cell l1 x466 x472 x478 h) fun x479 h479 => ck c9 z9 ((sX L9 xs9 (l4 + 1)).bind fun x488 => (sX L9 xs9 (l4 + 2)).bind fun x494 => (sX L9 xs9 (l4 + 3)).bind fun x500 => kO h479 l2 14 (cI (s_X14_cell l2 x488 x494 x500 h479) fun x501 h501 => ck c9 z9 (if x479 = x501 then (s_L_law_1705 L9 xs9 k23 l1 l2 l3 l4 h501 c9 z9) else (wE c9 z9 (rtZ 0 h501))))))
def s_L_law_435 (L9 : Nat) (xs9 : Nat → Int32) (k23 : Nat → Nat → Nat → Int32 → aH → Nat → Nat → aP) (l1 : Nat) (l2 : Nat) (l3 : Nat) (l4 : Int32) (h : aH) (c9 z9 : Nat) : aP :=
  (sX L9 xs9 (l4 + 1)).bind fun x441 => kO h l1 11 (cI (s_X11_count l1 x441 h) fun x442 h442 => ck c9 z9 ((sX L9 xs9 (l4 + 1)).bind fun x451 => kO h442 l2 14 (cI (s_X14_count l2 x451 h442) fun x452 h452 => ck c9 z9 (if x442 = x452 then (s_L_law_1705 L9 xs9 k23 l1 l2 l3 l4 h452 c9 z9) else (wE c9 z9 (rtZ 0 h452))))))
def s_L_law_422 (L9 : Nat) (xs9 : Nat → Int32) (k23 : Nat → Nat → Nat → Int32 → aH → Nat → Nat → aP) (l1 : Nat) (l2 : Nat) (l3 : Nat) (l4 : Int32) (h : aH) (c9 z9 : Nat) : aP :=
  kO h l1 11 (cI (s_X11_where l1 h) fun x423 h423 => ck c9 z9 (kO h423 l2 14 (cI (s_X14_where l2 h423) fun x427 h427 => ck c9 z9 (if x423 = x427 then (s_L_law_1705 L9 xs9 k23 l1 l2 l3 l4 h427 c9 z9) else (wE c9 z9 (rtZ 0 h427))))))
def s_L_law_409 (L9 : Nat) (xs9 : Nat → Int32) (k23 : Nat → Nat → Nat → Int32 → aH → Nat → Nat → aP) (l1 : Nat) (l2 : Nat) (l3 : Nat) (l4 : Int32) (h : aH) (c9 z9 : Nat) : aP :=
  kO h l1 11 (cI (s_X11_fault l1 h) fun x410 h410 => ck c9 z9 (kO h410 l2 14 (cI (s_X14_fault l2 h410) fun x414 h414 => ck c9 z9 (if x410 = x414 then (s_L_law_1705 L9 xs9 k23 l1 l2 l3 l4 h414 c9 z9) else (wE c9 z9 (rtZ 0 h414))))))
def s_L_law_384 (L9 : Nat) (xs9 : Nat → Int32) (k23 : Nat → Nat → Nat → Int32 → aH → Nat → Nat → aP) (l1 : Nat) (l2 : Nat) (l3 : Nat) (l4 : Int32) (h : aH) (c9 z9 : Nat) : aP :=
  (sX L9 xs9 (l4 + 1)).bind fun x390 => kO h l1 11 (cI (s_X11_cost l1 x390 h) fun x391 h391 => ck c9 z9 ((sX L9 xs9 (l4 + 1)).bind fun x400 => kO h391 l2 14 (cI (s_X14_cost l2 x400 h391) fun x401 h401 => ck c9 z9 (if x391 = x401 then (s_L_law_1705 L9 xs9 k23 l1 l2 l3 l4 h401 c9 z9) else (wE c9 z9 (rtZ 0 h401))))))
def s_L_law_359 (L9 : Nat) (xs9 : Nat → Int32) (k23 : Nat → Nat → Nat → Int32 → aH → Nat → Nat → aP) (l1 : Nat) (l2 : Nat) (l3 : Nat) (l4 : Int32) (h : aH) (c9 z9 : Nat) : aP :=
  (sX L9 xs9 (l4 + 1)).bind fun x365 => kO h l1 11 (cI (s_X11_goal l1 x365 h) fun x366 h366 => ck c9 z9 ((sX L9 xs9 (l4 + 1)).bind fun x375 => kO h366 l2 14 (cI (s_X14_goal l2 x375 h366) fun x376 h376 => ck c9 z9 (if x366 = x376 then (s_L_law_1705 L9 xs9 k23 l1 l2 l3 l4 h376 c9 z9) else (wE c9 z9 (rtZ 0 h376))))))
def s_L_law_334 (L9 : Nat) (xs9 : Nat → Int32) (k23 : Nat → Nat → Nat → Int32 → aH → Nat → Nat → aP) (l1 : Nat) (l2 : Nat) (l3 : Nat) (l4 : Int32) (h : aH) (c9 z9 : Nat) : aP :=
  (sX L9 xs9 (l4 + 1)).bind fun x340 => kO h l1 11 (cI (s_X11_good l1 x340 h) fun x341 h341 => ck c9 z9 ((sX L9 xs9 (l4 + 1)).bind fun x350 => kO h341 l2 14 (cI (s_X14_good l2 x350 h341) fun x351 h351 => ck c9 z9 (if x341 = x351 then (s_L_law_1705 L9 xs9 k23 l1 l2 l3 l4 h351 c9 z9) else (wE c9 z9 (rtZ 0 h351))))))
def s_L_law_309 (L9 : Nat) (xs9 : Nat → Int32) (k23 : Nat → Nat → Nat → Int32 → aH → Nat → Nat → aP) (l1 : Nat) (l2 : Nat) (l3 : Nat) (l4 : Int32) (h : aH) (c9 z9 : Nat) : aP :=
  (sX L9 xs9 (l4 + 1)).bind fun x315 => kO h l1 11 (dI (s_X11_thing l1 x315 h) fun x316 h316 n316 y316 => ck (c9 + n316) (z9 + y316) ((sX L9 xs9 (l4 + 1)).bind fun x325 => kO h316 l2 14 (dI (s_X14_thing l2 x325 h316) fun x326 h326 n326 y326 => ck (c9 + n316 + n326) (z9 + y316 + y326) (if x316 = x326 then (s_L_law_1705 L9 xs9 k23 l1 l2 l3 l4 h326 (c9 + n316 + n326) (z9 + y316 + y326)) else (wE (c9 + n316 + n326) (z9 + y316 + y326) (rtZ 0 h326))))))
def s_L_law_236 (L9 : Nat) (xs9 : Nat → Int32) (k23 : Nat → Nat → Nat → Int32 → aH → Nat → Nat → aP) (l1 : Nat) (l2 : Nat) (l3 : Nat) (l4 : Int32) (h : aH) (c9 z9 : Nat) : aP :=
  (sX L9 xs9 (l4 + 1)).bind fun x242 => (sX L9 xs9 (l4 + 2)).bind fun x248 => (sX L9 xs9 (l4 + 3)).bind fun x254 => (sX L9 xs9 (l4 + 4)).bind fun x260 => (sX L9 xs9 (l4 + 5)).bind fun x266 => kO h l1 11 (cI (s_X11_feed l1 x242 x248 x254 x260 x266 h) fun x267 h267 => ck c9 z9 ((sX L9 xs9 (l4 + 1)).bind fun x276 => (sX L9 xs9 (l4 + 2)).bind fun x282 => (sX L9 xs9 (l4 + 3)).bind fun x288 => (sX L9 xs9 (l4 + 4)).bind fun x294 => (sX L9 xs9 (l4 + 5)).bind fun x300 => kO h267 l2 14 (cI (s_X14_feed l2 x276 x282 x288 x294 x300 h267) fun x301 h301 => ck c9 z9 (if x267 = x301 then (s_L_law_1705 L9 xs9 k23 l1 l2 l3 l4 h301 c9 z9) else (wE c9 z9 (rtZ 0 h301))))))
def s_L_law_23_b (L9 : Nat) (xs9 : Nat → Int32)  (k23 : Nat → Nat → Nat → Int32 → aH → Nat → Nat → aP) (l1 : Nat) (l2 : Nat) (l3 : Nat) (l4 : Int32) (h : aH) (c9 z9 : Nat) : aP :=
  if ((Int32.ofNat L9) - 6) < l4 then (wE c9 z9 (rtZ 1 h)) else ((sX L9 xs9 l4).bind fun x36 => if (x36 &&& 63) = 0 then (s_L_law_236 L9 xs9 k23 l1 l2 l3 l4 h c9 z9) else (if (x36 &&& 63) = 1 then (s_L_law_309 L9 xs9 k23 l1 l2 l3 l4 h c9 z9) else (if (x36 &&& 63) = 2 then (s_L_law_334 L9 xs9 k23 l1 l2 l3 l4 h c9 z9) else (if (x36 &&& 63) = 3 then (s_L_law_359 L9 xs9 k23 l1 l2 l3 l4 h c9 z9) else (if (x36 &&& 63) = 4 then (s_L_law_384 L9 xs9 k23 l1 l2 l3 l4 h c9 z9) else (if (x36 &&& 63) = 5 then (s_L_law_409 L9 xs9 k23 l1 l2 l3 l4 h c9 z9) else (if (x36 &&& 63) = 6 then (s_L_law_422 L9 xs9 k23 l1 l2 l3 l4 h c9 z9) else (if (x36 &&& 63) = 7 then (s_L_law_435 L9 xs9 k23 l1 l2 l3 l4 h c9 z9) else (if (x36 &&& 63) = 8 then (s_L_law_460 L9 xs9 k23 l1 l2 l3 l4 h c9 z9) else (if (x36 &&& 63) = 9 then (s_L_law_509 L9 xs9 k23 l1 l2 l3 l4 h c9 z9) else (if (x36 &&& 63) = 10 then (s_L_law_546 L9 xs9 k23 l1 l2 l3 l4 h c9 z9) else (if (x36 &&& 63) = 11 then (s_L_law_583 L9 xs9 k23 l1 l2 l3 l4 h c9 z9) else (if (x36 &&& 63) = 12 then (s_L_law_632 L9 xs9 k23 l1 l2 l3 l4 h c9 z9) else (if (x36 &&& 63) = 13 then (s_L_law_693 L9 xs9 k23 l1 l2 l3 l4 h c9 z9) else (if (x36 &&& 63) = 14 then (s_L_law_706 L9 xs9 k23 l1 l2 l3 l4 h c9 z9) else (if (x36 &&& 63) = 15 then (s_L_law_731 L9 xs9 k23 l1 l2 l3 l4 h c9 z9) else (if (x36 &&& 63) = 16 then (s_L_law_756 L9 xs9 k23 l1 l2 l3 l4 h c9 z9) else (if (x36 &&& 63) = 17 then (s_L_law_781 L9 xs9 k23 l1 l2 l3 l4 h c9 z9) else (if (x36 &&& 63) = 18 then (s_L_law_806 L9 xs9 k23 l1 l2 l3 l4 h c9 z9) else (if (x36 &&& 63) = 19 then (s_L_law_843 L9 xs9 k23 l1 l2 l3 l4 h c9 z9) else (if (x36 &&& 63) = 20 then (s_L_law_880 L9 xs9 k23 l1 l2 l3 l4 h c9 z9) else (if (x36 &&& 63) = 21 then (s_L_law_960 L9 xs9 k23 l1 l2 l3 l4 h c9 z9) else (if (x36 &&& 63) = 22 then (s_L_law_985 L9 xs9 k23 l1 l2 l3 l4 h c9 z9) else (if (x36 &&& 63) = 23 then (s_L_law_1026 L9 xs9 k23 l1 l2 l3 l4 h c9 z9) else (if (x36 &&& 63) = 24 then (s_L_law_1051 L9 xs9 k23 l1 l2 l3 l4 h c9 z9) else (if (x36 &&& 63) = 25 then (s_L_law_1100 L9 xs9 k23 l1 l2 l3 l4 h c9 z9) else (if (x36 &&& 63) = 26 then (s_L_law_1154 L9 xs9 k23 l1 l2 l3 l4 h c9 z9) else (if (x36 &&& 63) = 27 then (s_L_law_1215 L9 xs9 k23 l1 l2 l3 l4 h c9 z9) else (if (x36 &&& 63) = 28 then (s_L_law_1240 L9 xs9 k23 l1 l2 l3 l4 h c9 z9) else (if (x36 &&& 63) = 29 then (s_L_law_1289 L9 xs9 k23 l1 l2 l3 l4 h c9 z9) else (if (x36 &&& 63) = 30 then (s_L_law_1314 L9 xs9 k23 l1 l2 l3 l4 h c9 z9) else (if (x36 &&& 63) = 31 then (s_L_law_1339 L9 xs9 k23 l1 l2 l3 l4 h c9 z9) else (if (x36 &&& 63) = 32 then (s_L_law_1392 L9 xs9 k23 l1 l2 l3 l4 h c9 z9) else (if (x36 &&& 63) = 33 then (s_L_law_1405 L9 xs9 k23 l1 l2 l3 l4 h c9 z9) else (if (x36 &&& 63) = 34 then (s_L_law_1430 L9 xs9 k23 l1 l2 l3 l4 h c9 z9) else (if (x36 &&& 63) = 35 then (s_L_law_1443 L9 xs9 k23 l1 l2 l3 l4 h c9 z9) else (if (x36 &&& 63) = 36 then (s_L_law_1468 L9 xs9 k23 l1 l2 l3 l4 h c9 z9) else (if (x36 &&& 63) = 37 then (s_L_law_1481 L9 xs9 k23 l1 l2 l3 l4 h c9 z9) else (if (x36 &&& 63) = 38 then (s_L_law_1554 L9 xs9 k23 l1 l2 l3 l4 h c9 z9) else (if (x36 &&& 63) = 39 then (s_L_law_1579 L9 xs9 k23 l1 l2 l3 l4 h c9 z9) else (if (x36 &&& 63) = 40 then (s_L_law_1592 L9 xs9 k23 l1 l2 l3 l4 h c9 z9) else (if (x36 &&& 63) = 41 then (s_L_law_1617 L9 xs9 k23 l1 l2 l3 l4 h c9 z9) else (if (x36 &&& 63) = 42 then (s_L_law_1654 L9 xs9 k23 l1 l2 l3 l4 h c9 z9) else (if (x36 &&& 63) = 43 then (s_L_law_1679 L9 xs9 k23 l1 l2 l3 l4 h c9 z9) else (if (x36 &&& 63) = 44 then (s_L_law_1692 L9 xs9 k23 l1 l2 l3 l4 h c9 z9) else (s_L_law_1705 L9 xs9 k23 l1 l2 l3 l4 h c9 z9))))))))))))))))))))))))))))))))))))))))))))))
def s_L_law_23 (L9 : Nat) (xs9 : Nat → Int32)  (n : Nat) : Nat → Nat → Nat → Int32 → aH → Nat → Nat → aP := lpF (fun _ _ _ _ _ _ _ => none) (s_L_law_23_b L9 xs9 ) n
def s_L_law (L9 : Nat) (xs9 : Nat → Int32) (h : aH) : aP :=
  bP (nwO dfX11 11 h) fun o0 h0 => ck (0 + 1) (0 + 18) (dN (s_X11_init o0 h0) fun h4 n4 y4 => ck (0 + 1 + n4) (0 + 18 + y4) (bP (nwO dfX14 14 h4) fun o8 h8 => ck (0 + 1 + n4 + 1) (0 + 18 + y4 + 70) (dN (s_X14_init o8 h8) fun h12 n12 y12 => ck (0 + 1 + n4 + 1 + n12) (0 + 18 + y4 + 70 + y12) (bP (nwA .long h12 1) fun o17 h17 => ck (0 + 1 + n4 + 1 + n12 + 1) (0 + 18 + y4 + 70 + y12 + Int32.toNatClampNeg 1) (s_L_law_23 L9 xs9 FU o0 o8 o17 0 h17 (0 + 1 + n4 + 1 + n12 + 1) (0 + 18 + y4 + 70 + y12 + Int32.toNatClampNeg 1))))))
section
variable {p : Program} {l : Launch} {e : Env} {s : State} {m : MethodId} {args : Array Value} {below : List Frame} {meth : Method} {c : Code} {D : va_G} {B0 : Nat} {X : Nat → Nat} {ws0 : va_W} {r : aR} {h' : aH} {mc ms : Nat} {L9 : Nat} {xs9 : Nat → Int32}
theorem t_L_law_1705 (C : CxS p l s m args meth c B0 X L9 xs9) {k23 : Nat → Nat → Nat → Int32 → aH → Nat → Nat → aP} (K23 : ∀ (l1 : Nat) (l2 : Nat) (l3 : Nat) (l4 : Int32) (h : aH) (c9 z9 : Nat), k23 l1 l2 l3 l4 h c9 z9 = some (r, h', mc, ms) → Ev p l e { frames := 20, cells := mc, slots := ms, locals := 766 } s m args below meth c D B0 X ws0 r h' mc ms 7 c9 z9 23 [some (.ref (aE + 5)), some (.ref l1), some (.ref l2), some (.ref l3), some (.int l4), none, none] [] h) {l1 : Nat} {l2 : Nat} {l3 : Nat} {l4 : Int32} {h : aH} {c9 z9 : Nat} (hs : s_L_law_1705 L9 xs9 k23 l1 l2 l3 l4 h c9 z9 = some (r, h', mc, ms)) : Ev p l e { frames := 20, cells := mc, slots := ms, locals := 766 } s m args below meth c D B0 X ws0 r h' mc ms 7 c9 z9 1705 [some (.ref (aE + 5)), some (.ref l1), some (.ref l2), some (.ref l3), some (.int l4), none, none] [] h := by
  unfold s_L_law_1705 at hs
  refine ev_iinc C.1 (i := 4) (n := 6) (x := l4) (v := l4 + 6) rfl (congrArg (fun z => l4 + z) (show Int32.ofInt 6 = 6 by decide)) (by decide) dL_law_1705 ?_
  refine ev_goto C.1 (tgt := 23) (by decide) dL_law_1708 ?_
  exact (K23 _ _ _ _ _ _ _ hs)
theorem t_L_law_1692 (C : CxS p l s m args meth c B0 X L9 xs9) {k23 : Nat → Nat → Nat → Int32 → aH → Nat → Nat → aP} (K23 : ∀ (l1 : Nat) (l2 : Nat) (l3 : Nat) (l4 : Int32) (h : aH) (c9 z9 : Nat), k23 l1 l2 l3 l4 h c9 z9 = some (r, h', mc, ms) → Ev p l e { frames := 20, cells := mc, slots := ms, locals := 766 } s m args below meth c D B0 X ws0 r h' mc ms 7 c9 z9 23 [some (.ref (aE + 5)), some (.ref l1), some (.ref l2), some (.ref l3), some (.int l4), none, none] [] h) {l1 : Nat} {l2 : Nat} {l3 : Nat} {l4 : Int32} {h : aH} {c9 z9 : Nat} (hs : s_L_law_1692 L9 xs9 k23 l1 l2 l3 l4 h c9 z9 = some (r, h', mc, ms)) : Ev p l e { frames := 20, cells := mc, slots := ms, locals := 766 } s m args below meth c D B0 X ws0 r h' mc ms 7 c9 z9 1692 [some (.ref (aE + 5)), some (.ref l1), some (.ref l2), some (.ref l3), some (.int l4), none, none] [] h := by
  unfold s_L_law_1692 at hs
  refine ev_aload_n C.1 (x := .ref l1) rfl trivial dL_law_1692 ?_
  obtain ⟨eo1693, hs⟩ := kO_at hs
  obtain ⟨x1693, h1693, e1693, hs⟩ := cI_at hs
  obtain ⟨c1693, z1693, hs⟩ := ck_at hs
  refine ev_callV C.1 (T_X11_trouble _ _ _ _ e1693) (ci := 11) rfl eo1693 wc_X11_trouble wm_L_211 wi_X11_trouble ws_X11_trouble wz_X11 hy_X11_trouble ⟨(Nat.le_of_ble_eq_true rfl), (Nat.le_of_ble_eq_true rfl)⟩ ⟨c1693, z1693⟩ (Nat.le_of_ble_eq_true rfl) rfl dL_law_1693 ?_
  refine ev_aload_n C.1 (x := .ref l2) rfl trivial dL_law_1696 ?_
  obtain ⟨eo1697, hs⟩ := kO_at hs
  obtain ⟨x1697, h1697, e1697, hs⟩ := cI_at hs
  obtain ⟨c1697, z1697, hs⟩ := ck_at hs
  refine ev_callV C.1 (T_X14_trouble _ _ _ _ e1697) (ci := 14) rfl eo1697 wc_X14_trouble wm_L_214 wi_X14_trouble ws_X14_trouble wz_X14 hy_X14_trouble ⟨(Nat.le_of_ble_eq_true rfl), (Nat.le_of_ble_eq_true rfl)⟩ ⟨c1697, z1697⟩ (Nat.le_of_ble_eq_true rfl) rfl dL_law_1697 ?_
  refine ev_icmp_eq C.1 (tgt := 1705) (by decide) dL_law_1700 (fun q1700 => ?_) (fun q1700 => ?_)
  · replace hs := (if_pos q1700).symm.trans hs
    exact (t_L_law_1705 C K23 hs)
  · replace hs := (if_neg q1700).symm.trans hs
    obtain ⟨hw9, hc9, hz9⟩ := wE_at hs
    refine Ev.widen hc9 hz9 ?_
    have hs := hw9
    refine ev_iconst C.1 (v := 0) dL_law_1703 (by decide) ?_
    obtain ⟨hz, rfl, rfl⟩ := rtZ_at hs
    exact ev_zret C.1 rfl hz rfl (Nat.le_refl _) (Nat.le_refl _) rfl dL_law_1704
theorem t_L_law_1679 (C : CxS p l s m args meth c B0 X L9 xs9) {k23 : Nat → Nat → Nat → Int32 → aH → Nat → Nat → aP} (K23 : ∀ (l1 : Nat) (l2 : Nat) (l3 : Nat) (l4 : Int32) (h : aH) (c9 z9 : Nat), k23 l1 l2 l3 l4 h c9 z9 = some (r, h', mc, ms) → Ev p l e { frames := 20, cells := mc, slots := ms, locals := 766 } s m args below meth c D B0 X ws0 r h' mc ms 7 c9 z9 23 [some (.ref (aE + 5)), some (.ref l1), some (.ref l2), some (.ref l3), some (.int l4), none, none] [] h) {l1 : Nat} {l2 : Nat} {l3 : Nat} {l4 : Int32} {h : aH} {c9 z9 : Nat} (hs : s_L_law_1679 L9 xs9 k23 l1 l2 l3 l4 h c9 z9 = some (r, h', mc, ms)) : Ev p l e { frames := 20, cells := mc, slots := ms, locals := 766 } s m args below meth c D B0 X ws0 r h' mc ms 7 c9 z9 1679 [some (.ref (aE + 5)), some (.ref l1), some (.ref l2), some (.ref l3), some (.int l4), none, none] [] h := by
  unfold s_L_law_1679 at hs
  refine ev_aload_n C.1 (x := .ref l1) rfl trivial dL_law_1679 ?_
  obtain ⟨eo1680, hs⟩ := kO_at hs
  obtain ⟨x1680, h1680, n1680, y1680, e1680, hs⟩ := dI_at hs
  obtain ⟨c1680, z1680, hs⟩ := ck_at hs
  refine ev_callV C.1 (T_X11_breaks _ _ _ _ _ _ e1680) (ci := 11) rfl eo1680 wc_X11_breaks wm_L_207 wi_X11_breaks ws_X11_breaks wz_X11 hy_X11_breaks ⟨(Nat.le_of_ble_eq_true rfl), (Nat.le_of_ble_eq_true rfl)⟩ ⟨c1680, z1680⟩ (Nat.le_of_ble_eq_true rfl) rfl dL_law_1680 ?_
  refine ev_aload_n C.1 (x := .ref l2) rfl trivial dL_law_1683 ?_
  obtain ⟨eo1684, hs⟩ := kO_at hs
  obtain ⟨x1684, h1684, e1684, hs⟩ := cI_at hs
  obtain ⟨c1684, z1684, hs⟩ := ck_at hs
  refine ev_callV C.1 (T_X14_breaks _ _ _ _ e1684) (ci := 14) rfl eo1684 wc_X14_breaks wm_L_210 wi_X14_breaks ws_X14_breaks wz_X14 hy_X14_breaks ⟨(Nat.le_of_ble_eq_true rfl), (Nat.le_of_ble_eq_true rfl)⟩ ⟨c1684, z1684⟩ (Nat.le_of_ble_eq_true rfl) rfl dL_law_1684 ?_
  refine ev_icmp_eq C.1 (tgt := 1705) (by decide) dL_law_1687 (fun q1687 => ?_) (fun q1687 => ?_)
  · replace hs := (if_pos q1687).symm.trans hs
    exact (t_L_law_1705 C K23 hs)
  · replace hs := (if_neg q1687).symm.trans hs
    obtain ⟨hw9, hc9, hz9⟩ := wE_at hs
    refine Ev.widen hc9 hz9 ?_
    have hs := hw9
    refine ev_iconst C.1 (v := 0) dL_law_1690 (by decide) ?_
    obtain ⟨hz, rfl, rfl⟩ := rtZ_at hs
    exact ev_zret C.1 rfl hz rfl (Nat.le_refl _) (Nat.le_refl _) rfl dL_law_1691
theorem t_L_law_1654 (C : CxS p l s m args meth c B0 X L9 xs9) {k23 : Nat → Nat → Nat → Int32 → aH → Nat → Nat → aP} (K23 : ∀ (l1 : Nat) (l2 : Nat) (l3 : Nat) (l4 : Int32) (h : aH) (c9 z9 : Nat), k23 l1 l2 l3 l4 h c9 z9 = some (r, h', mc, ms) → Ev p l e { frames := 20, cells := mc, slots := ms, locals := 766 } s m args below meth c D B0 X ws0 r h' mc ms 7 c9 z9 23 [some (.ref (aE + 5)), some (.ref l1), some (.ref l2), some (.ref l3), some (.int l4), none, none] [] h) {l1 : Nat} {l2 : Nat} {l3 : Nat} {l4 : Int32} {h : aH} {c9 z9 : Nat} (hs : s_L_law_1654 L9 xs9 k23 l1 l2 l3 l4 h c9 z9 = some (r, h', mc, ms)) : Ev p l e { frames := 20, cells := mc, slots := ms, locals := 766 } s m args below meth c D B0 X ws0 r h' mc ms 7 c9 z9 1654 [some (.ref (aE + 5)), some (.ref l1), some (.ref l2), some (.ref l3), some (.int l4), none, none] [] h := by
  unfold s_L_law_1654 at hs
  refine ev_aload_n C.1 (x := .ref l1) rfl trivial dL_law_1654 ?_
  refine ev_aload_n C.1 (x := .ref (aE + 5)) rfl trivial dL_law_1655 ?_
  refine ev_iload C.1 rfl dL_law_1656 ?_
  refine ev_iconst C.1 (v := 1) dL_law_1658 (by decide) ?_
  refine ev_iadd C.1 dL_law_1659 ?_
  obtain ⟨x1660, e1660, hs⟩ := aB hs
  refine ev_sX C.1 C.2 e1660 dL_law_1660 ?_
  obtain ⟨eo1661, hs⟩ := kO_at hs
  obtain ⟨x1661, h1661, n1661, y1661, e1661, hs⟩ := dI_at hs
  obtain ⟨c1661, z1661, hs⟩ := ck_at hs
  refine ev_callV C.1 (T_X11_proved _ _ _ _ _ _ _ e1661) (ci := 11) rfl eo1661 wc_X11_proved wm_L_203 wi_X11_proved ws_X11_proved wz_X11 hy_X11_proved ⟨(Nat.le_of_ble_eq_true rfl), (Nat.le_of_ble_eq_true rfl)⟩ ⟨c1661, z1661⟩ (Nat.le_of_ble_eq_true rfl) rfl dL_law_1661 ?_
  refine ev_aload_n C.1 (x := .ref l2) rfl trivial dL_law_1664 ?_
  refine ev_aload_n C.1 (x := .ref (aE + 5)) rfl trivial dL_law_1665 ?_
  refine ev_iload C.1 rfl dL_law_1666 ?_
  refine ev_iconst C.1 (v := 1) dL_law_1668 (by decide) ?_
  refine ev_iadd C.1 dL_law_1669 ?_
  obtain ⟨x1670, e1670, hs⟩ := aB hs
  refine ev_sX C.1 C.2 e1670 dL_law_1670 ?_
  obtain ⟨eo1671, hs⟩ := kO_at hs
  obtain ⟨x1671, h1671, e1671, hs⟩ := cI_at hs
  obtain ⟨c1671, z1671, hs⟩ := ck_at hs
  refine ev_callV C.1 (T_X14_proved _ _ _ _ _ e1671) (ci := 14) rfl eo1671 wc_X14_proved wm_L_206 wi_X14_proved ws_X14_proved wz_X14 hy_X14_proved ⟨(Nat.le_of_ble_eq_true rfl), (Nat.le_of_ble_eq_true rfl)⟩ ⟨c1671, z1671⟩ (Nat.le_of_ble_eq_true rfl) rfl dL_law_1671 ?_
  refine ev_icmp_eq C.1 (tgt := 1705) (by decide) dL_law_1674 (fun q1674 => ?_) (fun q1674 => ?_)
  · replace hs := (if_pos q1674).symm.trans hs
    exact (t_L_law_1705 C K23 hs)
  · replace hs := (if_neg q1674).symm.trans hs
    obtain ⟨hw9, hc9, hz9⟩ := wE_at hs
    refine Ev.widen hc9 hz9 ?_
    have hs := hw9
    refine ev_iconst C.1 (v := 0) dL_law_1677 (by decide) ?_
    obtain ⟨hz, rfl, rfl⟩ := rtZ_at hs
    exact ev_zret C.1 rfl hz rfl (Nat.le_refl _) (Nat.le_refl _) rfl dL_law_1678
theorem t_L_law_1617 (C : CxS p l s m args meth c B0 X L9 xs9) {k23 : Nat → Nat → Nat → Int32 → aH → Nat → Nat → aP} (K23 : ∀ (l1 : Nat) (l2 : Nat) (l3 : Nat) (l4 : Int32) (h : aH) (c9 z9 : Nat), k23 l1 l2 l3 l4 h c9 z9 = some (r, h', mc, ms) → Ev p l e { frames := 20, cells := mc, slots := ms, locals := 766 } s m args below meth c D B0 X ws0 r h' mc ms 7 c9 z9 23 [some (.ref (aE + 5)), some (.ref l1), some (.ref l2), some (.ref l3), some (.int l4), none, none] [] h) {l1 : Nat} {l2 : Nat} {l3 : Nat} {l4 : Int32} {h : aH} {c9 z9 : Nat} (hs : s_L_law_1617 L9 xs9 k23 l1 l2 l3 l4 h c9 z9 = some (r, h', mc, ms)) : Ev p l e { frames := 20, cells := mc, slots := ms, locals := 766 } s m args below meth c D B0 X ws0 r h' mc ms 7 c9 z9 1617 [some (.ref (aE + 5)), some (.ref l1), some (.ref l2), some (.ref l3), some (.int l4), none, none] [] h := by
  unfold s_L_law_1617 at hs
  refine ev_aload_n C.1 (x := .ref l1) rfl trivial dL_law_1617 ?_
  refine ev_aload_n C.1 (x := .ref (aE + 5)) rfl trivial dL_law_1618 ?_
  refine ev_iload C.1 rfl dL_law_1619 ?_
  refine ev_iconst C.1 (v := 1) dL_law_1621 (by decide) ?_
  refine ev_iadd C.1 dL_law_1622 ?_
  obtain ⟨x1623, e1623, hs⟩ := aB hs
  refine ev_sX C.1 C.2 e1623 dL_law_1623 ?_
  refine ev_aload_n C.1 (x := .ref (aE + 5)) rfl trivial dL_law_1624 ?_
  refine ev_iload C.1 rfl dL_law_1625 ?_
  refine ev_iconst C.1 (v := 2) dL_law_1627 (by decide) ?_
  refine ev_iadd C.1 dL_law_1628 ?_
  obtain ⟨x1629, e1629, hs⟩ := aB hs
  refine ev_sX C.1 C.2 e1629 dL_law_1629 ?_
  obtain ⟨eo1630, hs⟩ := kO_at hs
  obtain ⟨x1630, h1630, e1630, hs⟩ := cI_at hs
  obtain ⟨c1630, z1630, hs⟩ := ck_at hs
  refine ev_callV C.1 (T_X11_claim _ _ _ _ _ _ e1630) (ci := 11) rfl eo1630 wc_X11_claim wm_L_198 wi_X11_claim ws_X11_claim wz_X11 hy_X11_claim ⟨(Nat.le_of_ble_eq_true rfl), (Nat.le_of_ble_eq_true rfl)⟩ ⟨c1630, z1630⟩ (Nat.le_of_ble_eq_true rfl) rfl dL_law_1630 ?_
  refine ev_aload_n C.1 (x := .ref l2) rfl trivial dL_law_1633 ?_
  refine ev_aload_n C.1 (x := .ref (aE + 5)) rfl trivial dL_law_1634 ?_
  refine ev_iload C.1 rfl dL_law_1635 ?_
  refine ev_iconst C.1 (v := 1) dL_law_1637 (by decide) ?_
  refine ev_iadd C.1 dL_law_1638 ?_
  obtain ⟨x1639, e1639, hs⟩ := aB hs
  refine ev_sX C.1 C.2 e1639 dL_law_1639 ?_
  refine ev_aload_n C.1 (x := .ref (aE + 5)) rfl trivial dL_law_1640 ?_
  refine ev_iload C.1 rfl dL_law_1641 ?_
  refine ev_iconst C.1 (v := 2) dL_law_1643 (by decide) ?_
  refine ev_iadd C.1 dL_law_1644 ?_
  obtain ⟨x1645, e1645, hs⟩ := aB hs
  refine ev_sX C.1 C.2 e1645 dL_law_1645 ?_
  obtain ⟨eo1646, hs⟩ := kO_at hs
  obtain ⟨x1646, h1646, e1646, hs⟩ := cI_at hs
  obtain ⟨c1646, z1646, hs⟩ := ck_at hs
  refine ev_callV C.1 (T_X14_claim _ _ _ _ _ _ e1646) (ci := 14) rfl eo1646 wc_X14_claim wm_L_202 wi_X14_claim ws_X14_claim wz_X14 hy_X14_claim ⟨(Nat.le_of_ble_eq_true rfl), (Nat.le_of_ble_eq_true rfl)⟩ ⟨c1646, z1646⟩ (Nat.le_of_ble_eq_true rfl) rfl dL_law_1646 ?_
  refine ev_icmp_eq C.1 (tgt := 1705) (by decide) dL_law_1649 (fun q1649 => ?_) (fun q1649 => ?_)
  · replace hs := (if_pos q1649).symm.trans hs
    exact (t_L_law_1705 C K23 hs)
  · replace hs := (if_neg q1649).symm.trans hs
    obtain ⟨hw9, hc9, hz9⟩ := wE_at hs
    refine Ev.widen hc9 hz9 ?_
    have hs := hw9
    refine ev_iconst C.1 (v := 0) dL_law_1652 (by decide) ?_
    obtain ⟨hz, rfl, rfl⟩ := rtZ_at hs
    exact ev_zret C.1 rfl hz rfl (Nat.le_refl _) (Nat.le_refl _) rfl dL_law_1653
theorem t_L_law_1592 (C : CxS p l s m args meth c B0 X L9 xs9) {k23 : Nat → Nat → Nat → Int32 → aH → Nat → Nat → aP} (K23 : ∀ (l1 : Nat) (l2 : Nat) (l3 : Nat) (l4 : Int32) (h : aH) (c9 z9 : Nat), k23 l1 l2 l3 l4 h c9 z9 = some (r, h', mc, ms) → Ev p l e { frames := 20, cells := mc, slots := ms, locals := 766 } s m args below meth c D B0 X ws0 r h' mc ms 7 c9 z9 23 [some (.ref (aE + 5)), some (.ref l1), some (.ref l2), some (.ref l3), some (.int l4), none, none] [] h) {l1 : Nat} {l2 : Nat} {l3 : Nat} {l4 : Int32} {h : aH} {c9 z9 : Nat} (hs : s_L_law_1592 L9 xs9 k23 l1 l2 l3 l4 h c9 z9 = some (r, h', mc, ms)) : Ev p l e { frames := 20, cells := mc, slots := ms, locals := 766 } s m args below meth c D B0 X ws0 r h' mc ms 7 c9 z9 1592 [some (.ref (aE + 5)), some (.ref l1), some (.ref l2), some (.ref l3), some (.int l4), none, none] [] h := by
  unfold s_L_law_1592 at hs
  refine ev_aload_n C.1 (x := .ref l1) rfl trivial dL_law_1592 ?_
  refine ev_aload_n C.1 (x := .ref (aE + 5)) rfl trivial dL_law_1593 ?_
  refine ev_iload C.1 rfl dL_law_1594 ?_
  refine ev_iconst C.1 (v := 1) dL_law_1596 (by decide) ?_
  refine ev_iadd C.1 dL_law_1597 ?_
  obtain ⟨x1598, e1598, hs⟩ := aB hs
  refine ev_sX C.1 C.2 e1598 dL_law_1598 ?_
  obtain ⟨eo1599, hs⟩ := kO_at hs
  obtain ⟨x1599, h1599, e1599, hs⟩ := cI_at hs
  obtain ⟨c1599, z1599, hs⟩ := ck_at hs
  refine ev_callV C.1 (T_X11_walk _ _ _ _ _ e1599) (ci := 11) rfl eo1599 wc_X11_walk wm_L_194 wi_X11_walk ws_X11_walk wz_X11 hy_X11_walk ⟨(Nat.le_of_ble_eq_true rfl), (Nat.le_of_ble_eq_true rfl)⟩ ⟨c1599, z1599⟩ (Nat.le_of_ble_eq_true rfl) rfl dL_law_1599 ?_
  refine ev_aload_n C.1 (x := .ref l2) rfl trivial dL_law_1602 ?_
  refine ev_aload_n C.1 (x := .ref (aE + 5)) rfl trivial dL_law_1603 ?_
  refine ev_iload C.1 rfl dL_law_1604 ?_
  refine ev_iconst C.1 (v := 1) dL_law_1606 (by decide) ?_
  refine ev_iadd C.1 dL_law_1607 ?_
  obtain ⟨x1608, e1608, hs⟩ := aB hs
  refine ev_sX C.1 C.2 e1608 dL_law_1608 ?_
  obtain ⟨eo1609, hs⟩ := kO_at hs
  obtain ⟨x1609, h1609, e1609, hs⟩ := cI_at hs
  obtain ⟨c1609, z1609, hs⟩ := ck_at hs
  refine ev_callV C.1 (T_X14_walk _ _ _ _ _ e1609) (ci := 14) rfl eo1609 wc_X14_walk wm_L_197 wi_X14_walk ws_X14_walk wz_X14 hy_X14_walk ⟨(Nat.le_of_ble_eq_true rfl), (Nat.le_of_ble_eq_true rfl)⟩ ⟨c1609, z1609⟩ (Nat.le_of_ble_eq_true rfl) rfl dL_law_1609 ?_
  refine ev_icmp_eq C.1 (tgt := 1705) (by decide) dL_law_1612 (fun q1612 => ?_) (fun q1612 => ?_)
  · replace hs := (if_pos q1612).symm.trans hs
    exact (t_L_law_1705 C K23 hs)
  · replace hs := (if_neg q1612).symm.trans hs
    obtain ⟨hw9, hc9, hz9⟩ := wE_at hs
    refine Ev.widen hc9 hz9 ?_
    have hs := hw9
    refine ev_iconst C.1 (v := 0) dL_law_1615 (by decide) ?_
    obtain ⟨hz, rfl, rfl⟩ := rtZ_at hs
    exact ev_zret C.1 rfl hz rfl (Nat.le_refl _) (Nat.le_refl _) rfl dL_law_1616
theorem t_L_law_1579 (C : CxS p l s m args meth c B0 X L9 xs9) {k23 : Nat → Nat → Nat → Int32 → aH → Nat → Nat → aP} (K23 : ∀ (l1 : Nat) (l2 : Nat) (l3 : Nat) (l4 : Int32) (h : aH) (c9 z9 : Nat), k23 l1 l2 l3 l4 h c9 z9 = some (r, h', mc, ms) → Ev p l e { frames := 20, cells := mc, slots := ms, locals := 766 } s m args below meth c D B0 X ws0 r h' mc ms 7 c9 z9 23 [some (.ref (aE + 5)), some (.ref l1), some (.ref l2), some (.ref l3), some (.int l4), none, none] [] h) {l1 : Nat} {l2 : Nat} {l3 : Nat} {l4 : Int32} {h : aH} {c9 z9 : Nat} (hs : s_L_law_1579 L9 xs9 k23 l1 l2 l3 l4 h c9 z9 = some (r, h', mc, ms)) : Ev p l e { frames := 20, cells := mc, slots := ms, locals := 766 } s m args below meth c D B0 X ws0 r h' mc ms 7 c9 z9 1579 [some (.ref (aE + 5)), some (.ref l1), some (.ref l2), some (.ref l3), some (.int l4), none, none] [] h := by
  unfold s_L_law_1579 at hs
  refine ev_aload_n C.1 (x := .ref l1) rfl trivial dL_law_1579 ?_
  obtain ⟨eo1580, hs⟩ := kO_at hs
  obtain ⟨x1580, h1580, n1580, y1580, e1580, hs⟩ := dI_at hs
  obtain ⟨c1580, z1580, hs⟩ := ck_at hs
  refine ev_callV C.1 (T_X11_strays _ _ _ _ _ _ e1580) (ci := 11) rfl eo1580 wc_X11_strays wm_L_190 wi_X11_strays ws_X11_strays wz_X11 hy_X11_strays ⟨(Nat.le_of_ble_eq_true rfl), (Nat.le_of_ble_eq_true rfl)⟩ ⟨c1580, z1580⟩ (Nat.le_of_ble_eq_true rfl) rfl dL_law_1580 ?_
  refine ev_aload_n C.1 (x := .ref l2) rfl trivial dL_law_1583 ?_
  obtain ⟨eo1584, hs⟩ := kO_at hs
  obtain ⟨x1584, h1584, e1584, hs⟩ := cI_at hs
  obtain ⟨c1584, z1584, hs⟩ := ck_at hs
  refine ev_callV C.1 (T_X14_strays _ _ _ _ e1584) (ci := 14) rfl eo1584 wc_X14_strays wm_L_193 wi_X14_strays ws_X14_strays wz_X14 hy_X14_strays ⟨(Nat.le_of_ble_eq_true rfl), (Nat.le_of_ble_eq_true rfl)⟩ ⟨c1584, z1584⟩ (Nat.le_of_ble_eq_true rfl) rfl dL_law_1584 ?_
  refine ev_icmp_eq C.1 (tgt := 1705) (by decide) dL_law_1587 (fun q1587 => ?_) (fun q1587 => ?_)
  · replace hs := (if_pos q1587).symm.trans hs
    exact (t_L_law_1705 C K23 hs)
  · replace hs := (if_neg q1587).symm.trans hs
    obtain ⟨hw9, hc9, hz9⟩ := wE_at hs
    refine Ev.widen hc9 hz9 ?_
    have hs := hw9
    refine ev_iconst C.1 (v := 0) dL_law_1590 (by decide) ?_
    obtain ⟨hz, rfl, rfl⟩ := rtZ_at hs
    exact ev_zret C.1 rfl hz rfl (Nat.le_refl _) (Nat.le_refl _) rfl dL_law_1591
theorem t_L_law_1554 (C : CxS p l s m args meth c B0 X L9 xs9) {k23 : Nat → Nat → Nat → Int32 → aH → Nat → Nat → aP} (K23 : ∀ (l1 : Nat) (l2 : Nat) (l3 : Nat) (l4 : Int32) (h : aH) (c9 z9 : Nat), k23 l1 l2 l3 l4 h c9 z9 = some (r, h', mc, ms) → Ev p l e { frames := 20, cells := mc, slots := ms, locals := 766 } s m args below meth c D B0 X ws0 r h' mc ms 7 c9 z9 23 [some (.ref (aE + 5)), some (.ref l1), some (.ref l2), some (.ref l3), some (.int l4), none, none] [] h) {l1 : Nat} {l2 : Nat} {l3 : Nat} {l4 : Int32} {h : aH} {c9 z9 : Nat} (hs : s_L_law_1554 L9 xs9 k23 l1 l2 l3 l4 h c9 z9 = some (r, h', mc, ms)) : Ev p l e { frames := 20, cells := mc, slots := ms, locals := 766 } s m args below meth c D B0 X ws0 r h' mc ms 7 c9 z9 1554 [some (.ref (aE + 5)), some (.ref l1), some (.ref l2), some (.ref l3), some (.int l4), none, none] [] h := by
  unfold s_L_law_1554 at hs
  refine ev_aload_n C.1 (x := .ref l1) rfl trivial dL_law_1554 ?_
  refine ev_aload_n C.1 (x := .ref (aE + 5)) rfl trivial dL_law_1555 ?_
  refine ev_iload C.1 rfl dL_law_1556 ?_
  refine ev_iconst C.1 (v := 1) dL_law_1558 (by decide) ?_
  refine ev_iadd C.1 dL_law_1559 ?_
  obtain ⟨x1560, e1560, hs⟩ := aB hs
  refine ev_sX C.1 C.2 e1560 dL_law_1560 ?_
  obtain ⟨eo1561, hs⟩ := kO_at hs
  obtain ⟨x1561, h1561, e1561, hs⟩ := cI_at hs
  obtain ⟨c1561, z1561, hs⟩ := ck_at hs
  refine ev_callV C.1 (T_X11_coded _ _ _ _ _ e1561) (ci := 11) rfl eo1561 wc_X11_coded wm_L_186 wi_X11_coded ws_X11_coded wz_X11 hy_X11_coded ⟨(Nat.le_of_ble_eq_true rfl), (Nat.le_of_ble_eq_true rfl)⟩ ⟨c1561, z1561⟩ (Nat.le_of_ble_eq_true rfl) rfl dL_law_1561 ?_
  refine ev_aload_n C.1 (x := .ref l2) rfl trivial dL_law_1564 ?_
  refine ev_aload_n C.1 (x := .ref (aE + 5)) rfl trivial dL_law_1565 ?_
  refine ev_iload C.1 rfl dL_law_1566 ?_
  refine ev_iconst C.1 (v := 1) dL_law_1568 (by decide) ?_
  refine ev_iadd C.1 dL_law_1569 ?_
  obtain ⟨x1570, e1570, hs⟩ := aB hs
  refine ev_sX C.1 C.2 e1570 dL_law_1570 ?_
  obtain ⟨eo1571, hs⟩ := kO_at hs
  obtain ⟨x1571, h1571, e1571, hs⟩ := cI_at hs
  obtain ⟨c1571, z1571, hs⟩ := ck_at hs
  refine ev_callV C.1 (T_X14_coded _ _ _ _ _ e1571) (ci := 14) rfl eo1571 wc_X14_coded wm_L_189 wi_X14_coded ws_X14_coded wz_X14 hy_X14_coded ⟨(Nat.le_of_ble_eq_true rfl), (Nat.le_of_ble_eq_true rfl)⟩ ⟨c1571, z1571⟩ (Nat.le_of_ble_eq_true rfl) rfl dL_law_1571 ?_
  refine ev_icmp_eq C.1 (tgt := 1705) (by decide) dL_law_1574 (fun q1574 => ?_) (fun q1574 => ?_)
  · replace hs := (if_pos q1574).symm.trans hs
    exact (t_L_law_1705 C K23 hs)
  · replace hs := (if_neg q1574).symm.trans hs
    obtain ⟨hw9, hc9, hz9⟩ := wE_at hs
    refine Ev.widen hc9 hz9 ?_
    have hs := hw9
    refine ev_iconst C.1 (v := 0) dL_law_1577 (by decide) ?_
    obtain ⟨hz, rfl, rfl⟩ := rtZ_at hs
    exact ev_zret C.1 rfl hz rfl (Nat.le_refl _) (Nat.le_refl _) rfl dL_law_1578
theorem t_L_law_1481 (C : CxS p l s m args meth c B0 X L9 xs9) {k23 : Nat → Nat → Nat → Int32 → aH → Nat → Nat → aP} (K23 : ∀ (l1 : Nat) (l2 : Nat) (l3 : Nat) (l4 : Int32) (h : aH) (c9 z9 : Nat), k23 l1 l2 l3 l4 h c9 z9 = some (r, h', mc, ms) → Ev p l e { frames := 20, cells := mc, slots := ms, locals := 766 } s m args below meth c D B0 X ws0 r h' mc ms 7 c9 z9 23 [some (.ref (aE + 5)), some (.ref l1), some (.ref l2), some (.ref l3), some (.int l4), none, none] [] h) {l1 : Nat} {l2 : Nat} {l3 : Nat} {l4 : Int32} {h : aH} {c9 z9 : Nat} (hs : s_L_law_1481 L9 xs9 k23 l1 l2 l3 l4 h c9 z9 = some (r, h', mc, ms)) : Ev p l e { frames := 20, cells := mc, slots := ms, locals := 766 } s m args below meth c D B0 X ws0 r h' mc ms 7 c9 z9 1481 [some (.ref (aE + 5)), some (.ref l1), some (.ref l2), some (.ref l3), some (.int l4), none, none] [] h := by
  unfold s_L_law_1481 at hs
  refine ev_aload_n C.1 (x := .ref l1) rfl trivial dL_law_1481 ?_
  refine ev_aload_n C.1 (x := .ref (aE + 5)) rfl trivial dL_law_1482 ?_
  refine ev_iload C.1 rfl dL_law_1483 ?_
  refine ev_iconst C.1 (v := 1) dL_law_1485 (by decide) ?_
  refine ev_iadd C.1 dL_law_1486 ?_
  obtain ⟨x1487, e1487, hs⟩ := aB hs
  refine ev_sX C.1 C.2 e1487 dL_law_1487 ?_
  refine ev_aload_n C.1 (x := .ref (aE + 5)) rfl trivial dL_law_1488 ?_
  refine ev_iload C.1 rfl dL_law_1489 ?_
  refine ev_iconst C.1 (v := 2) dL_law_1491 (by decide) ?_
  refine ev_iadd C.1 dL_law_1492 ?_
  obtain ⟨x1493, e1493, hs⟩ := aB hs
  refine ev_sX C.1 C.2 e1493 dL_law_1493 ?_
  refine ev_aload_n C.1 (x := .ref (aE + 5)) rfl trivial dL_law_1494 ?_
  refine ev_iload C.1 rfl dL_law_1495 ?_
  refine ev_iconst C.1 (v := 3) dL_law_1497 (by decide) ?_
  refine ev_iadd C.1 dL_law_1498 ?_
  obtain ⟨x1499, e1499, hs⟩ := aB hs
  refine ev_sX C.1 C.2 e1499 dL_law_1499 ?_
  refine ev_aload_n C.1 (x := .ref (aE + 5)) rfl trivial dL_law_1500 ?_
  refine ev_iload C.1 rfl dL_law_1501 ?_
  refine ev_iconst C.1 (v := 4) dL_law_1503 (by decide) ?_
  refine ev_iadd C.1 dL_law_1504 ?_
  obtain ⟨x1505, e1505, hs⟩ := aB hs
  refine ev_sX C.1 C.2 e1505 dL_law_1505 ?_
  refine ev_aload_n C.1 (x := .ref (aE + 5)) rfl trivial dL_law_1506 ?_
  refine ev_iload C.1 rfl dL_law_1507 ?_
  refine ev_iconst C.1 (v := 5) dL_law_1509 (by decide) ?_
  refine ev_iadd C.1 dL_law_1510 ?_
  obtain ⟨x1511, e1511, hs⟩ := aB hs
  refine ev_sX C.1 C.2 e1511 dL_law_1511 ?_
  obtain ⟨eo1512, hs⟩ := kO_at hs
  obtain ⟨x1512, h1512, e1512, hs⟩ := cI_at hs
  obtain ⟨c1512, z1512, hs⟩ := ck_at hs
  refine ev_callV C.1 (T_X11_code _ _ _ _ _ _ _ _ _ e1512) (ci := 11) rfl eo1512 wc_X11_code wm_L_181 wi_X11_code ws_X11_code wz_X11 hy_X11_code ⟨(Nat.le_of_ble_eq_true rfl), (Nat.le_of_ble_eq_true rfl)⟩ ⟨c1512, z1512⟩ (Nat.le_of_ble_eq_true rfl) rfl dL_law_1512 ?_
  refine ev_aload_n C.1 (x := .ref l2) rfl trivial dL_law_1515 ?_
  refine ev_aload_n C.1 (x := .ref (aE + 5)) rfl trivial dL_law_1516 ?_
  refine ev_iload C.1 rfl dL_law_1517 ?_
  refine ev_iconst C.1 (v := 1) dL_law_1519 (by decide) ?_
  refine ev_iadd C.1 dL_law_1520 ?_
  obtain ⟨x1521, e1521, hs⟩ := aB hs
  refine ev_sX C.1 C.2 e1521 dL_law_1521 ?_
  refine ev_aload_n C.1 (x := .ref (aE + 5)) rfl trivial dL_law_1522 ?_
  refine ev_iload C.1 rfl dL_law_1523 ?_
  refine ev_iconst C.1 (v := 2) dL_law_1525 (by decide) ?_
  refine ev_iadd C.1 dL_law_1526 ?_
  obtain ⟨x1527, e1527, hs⟩ := aB hs
  refine ev_sX C.1 C.2 e1527 dL_law_1527 ?_
  refine ev_aload_n C.1 (x := .ref (aE + 5)) rfl trivial dL_law_1528 ?_
  refine ev_iload C.1 rfl dL_law_1529 ?_
  refine ev_iconst C.1 (v := 3) dL_law_1531 (by decide) ?_
  refine ev_iadd C.1 dL_law_1532 ?_
  obtain ⟨x1533, e1533, hs⟩ := aB hs
  refine ev_sX C.1 C.2 e1533 dL_law_1533 ?_
  refine ev_aload_n C.1 (x := .ref (aE + 5)) rfl trivial dL_law_1534 ?_
  refine ev_iload C.1 rfl dL_law_1535 ?_
  refine ev_iconst C.1 (v := 4) dL_law_1537 (by decide) ?_
  refine ev_iadd C.1 dL_law_1538 ?_
  obtain ⟨x1539, e1539, hs⟩ := aB hs
  refine ev_sX C.1 C.2 e1539 dL_law_1539 ?_
  refine ev_aload_n C.1 (x := .ref (aE + 5)) rfl trivial dL_law_1540 ?_
  refine ev_iload C.1 rfl dL_law_1541 ?_
  refine ev_iconst C.1 (v := 5) dL_law_1543 (by decide) ?_
  refine ev_iadd C.1 dL_law_1544 ?_
  obtain ⟨x1545, e1545, hs⟩ := aB hs
  refine ev_sX C.1 C.2 e1545 dL_law_1545 ?_
  obtain ⟨eo1546, hs⟩ := kO_at hs
  obtain ⟨x1546, h1546, e1546, hs⟩ := cI_at hs
  obtain ⟨c1546, z1546, hs⟩ := ck_at hs
  refine ev_callV C.1 (T_X14_code _ _ _ _ _ _ _ _ _ e1546) (ci := 14) rfl eo1546 wc_X14_code wm_L_185 wi_X14_code ws_X14_code wz_X14 hy_X14_code ⟨(Nat.le_of_ble_eq_true rfl), (Nat.le_of_ble_eq_true rfl)⟩ ⟨c1546, z1546⟩ (Nat.le_of_ble_eq_true rfl) rfl dL_law_1546 ?_
  refine ev_icmp_eq C.1 (tgt := 1705) (by decide) dL_law_1549 (fun q1549 => ?_) (fun q1549 => ?_)
  · replace hs := (if_pos q1549).symm.trans hs
    exact (t_L_law_1705 C K23 hs)
  · replace hs := (if_neg q1549).symm.trans hs
    obtain ⟨hw9, hc9, hz9⟩ := wE_at hs
    refine Ev.widen hc9 hz9 ?_
    have hs := hw9
    refine ev_iconst C.1 (v := 0) dL_law_1552 (by decide) ?_
    obtain ⟨hz, rfl, rfl⟩ := rtZ_at hs
    exact ev_zret C.1 rfl hz rfl (Nat.le_refl _) (Nat.le_refl _) rfl dL_law_1553
theorem t_L_law_1468 (C : CxS p l s m args meth c B0 X L9 xs9) {k23 : Nat → Nat → Nat → Int32 → aH → Nat → Nat → aP} (K23 : ∀ (l1 : Nat) (l2 : Nat) (l3 : Nat) (l4 : Int32) (h : aH) (c9 z9 : Nat), k23 l1 l2 l3 l4 h c9 z9 = some (r, h', mc, ms) → Ev p l e { frames := 20, cells := mc, slots := ms, locals := 766 } s m args below meth c D B0 X ws0 r h' mc ms 7 c9 z9 23 [some (.ref (aE + 5)), some (.ref l1), some (.ref l2), some (.ref l3), some (.int l4), none, none] [] h) {l1 : Nat} {l2 : Nat} {l3 : Nat} {l4 : Int32} {h : aH} {c9 z9 : Nat} (hs : s_L_law_1468 L9 xs9 k23 l1 l2 l3 l4 h c9 z9 = some (r, h', mc, ms)) : Ev p l e { frames := 20, cells := mc, slots := ms, locals := 766 } s m args below meth c D B0 X ws0 r h' mc ms 7 c9 z9 1468 [some (.ref (aE + 5)), some (.ref l1), some (.ref l2), some (.ref l3), some (.int l4), none, none] [] h := by
  unfold s_L_law_1468 at hs
  refine ev_aload_n C.1 (x := .ref l1) rfl trivial dL_law_1468 ?_
  obtain ⟨eo1469, hs⟩ := kO_at hs
  obtain ⟨x1469, h1469, e1469, hs⟩ := cI_at hs
  obtain ⟨c1469, z1469, hs⟩ := ck_at hs
  refine ev_callV C.1 (T_X11_anew _ _ _ _ e1469) (ci := 11) rfl eo1469 wc_X11_anew wm_L_177 wi_X11_anew ws_X11_anew wz_X11 hy_X11_anew ⟨(Nat.le_of_ble_eq_true rfl), (Nat.le_of_ble_eq_true rfl)⟩ ⟨c1469, z1469⟩ (Nat.le_of_ble_eq_true rfl) rfl dL_law_1469 ?_
  refine ev_aload_n C.1 (x := .ref l2) rfl trivial dL_law_1472 ?_
  obtain ⟨eo1473, hs⟩ := kO_at hs
  obtain ⟨x1473, h1473, e1473, hs⟩ := cI_at hs
  obtain ⟨c1473, z1473, hs⟩ := ck_at hs
  refine ev_callV C.1 (T_X14_anew _ _ _ _ e1473) (ci := 14) rfl eo1473 wc_X14_anew wm_L_180 wi_X14_anew ws_X14_anew wz_X14 hy_X14_anew ⟨(Nat.le_of_ble_eq_true rfl), (Nat.le_of_ble_eq_true rfl)⟩ ⟨c1473, z1473⟩ (Nat.le_of_ble_eq_true rfl) rfl dL_law_1473 ?_
  refine ev_icmp_eq C.1 (tgt := 1705) (by decide) dL_law_1476 (fun q1476 => ?_) (fun q1476 => ?_)
  · replace hs := (if_pos q1476).symm.trans hs
    exact (t_L_law_1705 C K23 hs)
  · replace hs := (if_neg q1476).symm.trans hs
    obtain ⟨hw9, hc9, hz9⟩ := wE_at hs
    refine Ev.widen hc9 hz9 ?_
    have hs := hw9
    refine ev_iconst C.1 (v := 0) dL_law_1479 (by decide) ?_
    obtain ⟨hz, rfl, rfl⟩ := rtZ_at hs
    exact ev_zret C.1 rfl hz rfl (Nat.le_refl _) (Nat.le_refl _) rfl dL_law_1480
theorem t_L_law_1443 (C : CxS p l s m args meth c B0 X L9 xs9) {k23 : Nat → Nat → Nat → Int32 → aH → Nat → Nat → aP} (K23 : ∀ (l1 : Nat) (l2 : Nat) (l3 : Nat) (l4 : Int32) (h : aH) (c9 z9 : Nat), k23 l1 l2 l3 l4 h c9 z9 = some (r, h', mc, ms) → Ev p l e { frames := 20, cells := mc, slots := ms, locals := 766 } s m args below meth c D B0 X ws0 r h' mc ms 7 c9 z9 23 [some (.ref (aE + 5)), some (.ref l1), some (.ref l2), some (.ref l3), some (.int l4), none, none] [] h) {l1 : Nat} {l2 : Nat} {l3 : Nat} {l4 : Int32} {h : aH} {c9 z9 : Nat} (hs : s_L_law_1443 L9 xs9 k23 l1 l2 l3 l4 h c9 z9 = some (r, h', mc, ms)) : Ev p l e { frames := 20, cells := mc, slots := ms, locals := 766 } s m args below meth c D B0 X ws0 r h' mc ms 7 c9 z9 1443 [some (.ref (aE + 5)), some (.ref l1), some (.ref l2), some (.ref l3), some (.int l4), none, none] [] h := by
  unfold s_L_law_1443 at hs
  refine ev_aload_n C.1 (x := .ref l1) rfl trivial dL_law_1443 ?_
  refine ev_aload_n C.1 (x := .ref (aE + 5)) rfl trivial dL_law_1444 ?_
  refine ev_iload C.1 rfl dL_law_1445 ?_
  refine ev_iconst C.1 (v := 1) dL_law_1447 (by decide) ?_
  refine ev_iadd C.1 dL_law_1448 ?_
  obtain ⟨x1449, e1449, hs⟩ := aB hs
  refine ev_sX C.1 C.2 e1449 dL_law_1449 ?_
  obtain ⟨eo1450, hs⟩ := kO_at hs
  obtain ⟨x1450, h1450, n1450, y1450, e1450, hs⟩ := dI_at hs
  obtain ⟨c1450, z1450, hs⟩ := ck_at hs
  refine ev_callV C.1 (T_X11_probe _ _ _ _ _ _ _ e1450) (ci := 11) rfl eo1450 wc_X11_probe wm_L_173 wi_X11_probe ws_X11_probe wz_X11 hy_X11_probe ⟨(Nat.le_of_ble_eq_true rfl), (Nat.le_of_ble_eq_true rfl)⟩ ⟨c1450, z1450⟩ (Nat.le_of_ble_eq_true rfl) rfl dL_law_1450 ?_
  refine ev_aload_n C.1 (x := .ref l2) rfl trivial dL_law_1453 ?_
  refine ev_aload_n C.1 (x := .ref (aE + 5)) rfl trivial dL_law_1454 ?_
  refine ev_iload C.1 rfl dL_law_1455 ?_
  refine ev_iconst C.1 (v := 1) dL_law_1457 (by decide) ?_
  refine ev_iadd C.1 dL_law_1458 ?_
  obtain ⟨x1459, e1459, hs⟩ := aB hs
  refine ev_sX C.1 C.2 e1459 dL_law_1459 ?_
  obtain ⟨eo1460, hs⟩ := kO_at hs
  obtain ⟨x1460, h1460, e1460, hs⟩ := cI_at hs
  obtain ⟨c1460, z1460, hs⟩ := ck_at hs
  refine ev_callV C.1 (T_X14_probe _ _ _ _ _ e1460) (ci := 14) rfl eo1460 wc_X14_probe wm_L_176 wi_X14_probe ws_X14_probe wz_X14 hy_X14_probe ⟨(Nat.le_of_ble_eq_true rfl), (Nat.le_of_ble_eq_true rfl)⟩ ⟨c1460, z1460⟩ (Nat.le_of_ble_eq_true rfl) rfl dL_law_1460 ?_
  refine ev_icmp_eq C.1 (tgt := 1705) (by decide) dL_law_1463 (fun q1463 => ?_) (fun q1463 => ?_)
  · replace hs := (if_pos q1463).symm.trans hs
    exact (t_L_law_1705 C K23 hs)
  · replace hs := (if_neg q1463).symm.trans hs
    obtain ⟨hw9, hc9, hz9⟩ := wE_at hs
    refine Ev.widen hc9 hz9 ?_
    have hs := hw9
    refine ev_iconst C.1 (v := 0) dL_law_1466 (by decide) ?_
    obtain ⟨hz, rfl, rfl⟩ := rtZ_at hs
    exact ev_zret C.1 rfl hz rfl (Nat.le_refl _) (Nat.le_refl _) rfl dL_law_1467
theorem t_L_law_1430 (C : CxS p l s m args meth c B0 X L9 xs9) {k23 : Nat → Nat → Nat → Int32 → aH → Nat → Nat → aP} (K23 : ∀ (l1 : Nat) (l2 : Nat) (l3 : Nat) (l4 : Int32) (h : aH) (c9 z9 : Nat), k23 l1 l2 l3 l4 h c9 z9 = some (r, h', mc, ms) → Ev p l e { frames := 20, cells := mc, slots := ms, locals := 766 } s m args below meth c D B0 X ws0 r h' mc ms 7 c9 z9 23 [some (.ref (aE + 5)), some (.ref l1), some (.ref l2), some (.ref l3), some (.int l4), none, none] [] h) {l1 : Nat} {l2 : Nat} {l3 : Nat} {l4 : Int32} {h : aH} {c9 z9 : Nat} (hs : s_L_law_1430 L9 xs9 k23 l1 l2 l3 l4 h c9 z9 = some (r, h', mc, ms)) : Ev p l e { frames := 20, cells := mc, slots := ms, locals := 766 } s m args below meth c D B0 X ws0 r h' mc ms 7 c9 z9 1430 [some (.ref (aE + 5)), some (.ref l1), some (.ref l2), some (.ref l3), some (.int l4), none, none] [] h := by
  unfold s_L_law_1430 at hs
  refine ev_aload_n C.1 (x := .ref l1) rfl trivial dL_law_1430 ?_
  obtain ⟨eo1431, hs⟩ := kO_at hs
  obtain ⟨x1431, h1431, n1431, y1431, e1431, hs⟩ := dI_at hs
  obtain ⟨c1431, z1431, hs⟩ := ck_at hs
  refine ev_callV C.1 (T_X11_fit _ _ _ _ _ _ e1431) (ci := 11) rfl eo1431 wc_X11_fit wm_L_169 wi_X11_fit ws_X11_fit wz_X11 hy_X11_fit ⟨(Nat.le_of_ble_eq_true rfl), (Nat.le_of_ble_eq_true rfl)⟩ ⟨c1431, z1431⟩ (Nat.le_of_ble_eq_true rfl) rfl dL_law_1431 ?_
  refine ev_aload_n C.1 (x := .ref l2) rfl trivial dL_law_1434 ?_
  obtain ⟨eo1435, hs⟩ := kO_at hs
  obtain ⟨x1435, h1435, e1435, hs⟩ := cI_at hs
  obtain ⟨c1435, z1435, hs⟩ := ck_at hs
  refine ev_callV C.1 (T_X14_fit _ _ _ _ e1435) (ci := 14) rfl eo1435 wc_X14_fit wm_L_172 wi_X14_fit ws_X14_fit wz_X14 hy_X14_fit ⟨(Nat.le_of_ble_eq_true rfl), (Nat.le_of_ble_eq_true rfl)⟩ ⟨c1435, z1435⟩ (Nat.le_of_ble_eq_true rfl) rfl dL_law_1435 ?_
  refine ev_icmp_eq C.1 (tgt := 1705) (by decide) dL_law_1438 (fun q1438 => ?_) (fun q1438 => ?_)
  · replace hs := (if_pos q1438).symm.trans hs
    exact (t_L_law_1705 C K23 hs)
  · replace hs := (if_neg q1438).symm.trans hs
    obtain ⟨hw9, hc9, hz9⟩ := wE_at hs
    refine Ev.widen hc9 hz9 ?_
    have hs := hw9
    refine ev_iconst C.1 (v := 0) dL_law_1441 (by decide) ?_
    obtain ⟨hz, rfl, rfl⟩ := rtZ_at hs
    exact ev_zret C.1 rfl hz rfl (Nat.le_refl _) (Nat.le_refl _) rfl dL_law_1442
theorem t_L_law_1405 (C : CxS p l s m args meth c B0 X L9 xs9) {k23 : Nat → Nat → Nat → Int32 → aH → Nat → Nat → aP} (K23 : ∀ (l1 : Nat) (l2 : Nat) (l3 : Nat) (l4 : Int32) (h : aH) (c9 z9 : Nat), k23 l1 l2 l3 l4 h c9 z9 = some (r, h', mc, ms) → Ev p l e { frames := 20, cells := mc, slots := ms, locals := 766 } s m args below meth c D B0 X ws0 r h' mc ms 7 c9 z9 23 [some (.ref (aE + 5)), some (.ref l1), some (.ref l2), some (.ref l3), some (.int l4), none, none] [] h) {l1 : Nat} {l2 : Nat} {l3 : Nat} {l4 : Int32} {h : aH} {c9 z9 : Nat} (hs : s_L_law_1405 L9 xs9 k23 l1 l2 l3 l4 h c9 z9 = some (r, h', mc, ms)) : Ev p l e { frames := 20, cells := mc, slots := ms, locals := 766 } s m args below meth c D B0 X ws0 r h' mc ms 7 c9 z9 1405 [some (.ref (aE + 5)), some (.ref l1), some (.ref l2), some (.ref l3), some (.int l4), none, none] [] h := by
  unfold s_L_law_1405 at hs
  refine ev_aload_n C.1 (x := .ref l1) rfl trivial dL_law_1405 ?_
  refine ev_aload_n C.1 (x := .ref (aE + 5)) rfl trivial dL_law_1406 ?_
  refine ev_iload C.1 rfl dL_law_1407 ?_
  refine ev_iconst C.1 (v := 1) dL_law_1409 (by decide) ?_
  refine ev_iadd C.1 dL_law_1410 ?_
  obtain ⟨x1411, e1411, hs⟩ := aB hs
  refine ev_sX C.1 C.2 e1411 dL_law_1411 ?_
  obtain ⟨eo1412, hs⟩ := kO_at hs
  obtain ⟨x1412, h1412, n1412, y1412, e1412, hs⟩ := dI_at hs
  obtain ⟨c1412, z1412, hs⟩ := ck_at hs
  refine ev_callV C.1 (T_X11_known _ _ _ _ _ _ _ e1412) (ci := 11) rfl eo1412 wc_X11_known wm_L_165 wi_X11_known ws_X11_known wz_X11 hy_X11_known ⟨(Nat.le_of_ble_eq_true rfl), (Nat.le_of_ble_eq_true rfl)⟩ ⟨c1412, z1412⟩ (Nat.le_of_ble_eq_true rfl) rfl dL_law_1412 ?_
  refine ev_aload_n C.1 (x := .ref l2) rfl trivial dL_law_1415 ?_
  refine ev_aload_n C.1 (x := .ref (aE + 5)) rfl trivial dL_law_1416 ?_
  refine ev_iload C.1 rfl dL_law_1417 ?_
  refine ev_iconst C.1 (v := 1) dL_law_1419 (by decide) ?_
  refine ev_iadd C.1 dL_law_1420 ?_
  obtain ⟨x1421, e1421, hs⟩ := aB hs
  refine ev_sX C.1 C.2 e1421 dL_law_1421 ?_
  obtain ⟨eo1422, hs⟩ := kO_at hs
  obtain ⟨x1422, h1422, e1422, hs⟩ := cI_at hs
  obtain ⟨c1422, z1422, hs⟩ := ck_at hs
  refine ev_callV C.1 (T_X14_known _ _ _ _ _ e1422) (ci := 14) rfl eo1422 wc_X14_known wm_L_168 wi_X14_known ws_X14_known wz_X14 hy_X14_known ⟨(Nat.le_of_ble_eq_true rfl), (Nat.le_of_ble_eq_true rfl)⟩ ⟨c1422, z1422⟩ (Nat.le_of_ble_eq_true rfl) rfl dL_law_1422 ?_
  refine ev_icmp_eq C.1 (tgt := 1705) (by decide) dL_law_1425 (fun q1425 => ?_) (fun q1425 => ?_)
  · replace hs := (if_pos q1425).symm.trans hs
    exact (t_L_law_1705 C K23 hs)
  · replace hs := (if_neg q1425).symm.trans hs
    obtain ⟨hw9, hc9, hz9⟩ := wE_at hs
    refine Ev.widen hc9 hz9 ?_
    have hs := hw9
    refine ev_iconst C.1 (v := 0) dL_law_1428 (by decide) ?_
    obtain ⟨hz, rfl, rfl⟩ := rtZ_at hs
    exact ev_zret C.1 rfl hz rfl (Nat.le_refl _) (Nat.le_refl _) rfl dL_law_1429
theorem t_L_law_1392 (C : CxS p l s m args meth c B0 X L9 xs9) {k23 : Nat → Nat → Nat → Int32 → aH → Nat → Nat → aP} (K23 : ∀ (l1 : Nat) (l2 : Nat) (l3 : Nat) (l4 : Int32) (h : aH) (c9 z9 : Nat), k23 l1 l2 l3 l4 h c9 z9 = some (r, h', mc, ms) → Ev p l e { frames := 20, cells := mc, slots := ms, locals := 766 } s m args below meth c D B0 X ws0 r h' mc ms 7 c9 z9 23 [some (.ref (aE + 5)), some (.ref l1), some (.ref l2), some (.ref l3), some (.int l4), none, none] [] h) {l1 : Nat} {l2 : Nat} {l3 : Nat} {l4 : Int32} {h : aH} {c9 z9 : Nat} (hs : s_L_law_1392 L9 xs9 k23 l1 l2 l3 l4 h c9 z9 = some (r, h', mc, ms)) : Ev p l e { frames := 20, cells := mc, slots := ms, locals := 766 } s m args below meth c D B0 X ws0 r h' mc ms 7 c9 z9 1392 [some (.ref (aE + 5)), some (.ref l1), some (.ref l2), some (.ref l3), some (.int l4), none, none] [] h := by
  unfold s_L_law_1392 at hs
  refine ev_aload_n C.1 (x := .ref l1) rfl trivial dL_law_1392 ?_
  obtain ⟨eo1393, hs⟩ := kO_at hs
  obtain ⟨x1393, h1393, n1393, y1393, e1393, hs⟩ := dI_at hs
  obtain ⟨c1393, z1393, hs⟩ := ck_at hs
  refine ev_callV C.1 (T_X11_named _ _ _ _ _ _ e1393) (ci := 11) rfl eo1393 wc_X11_named wm_L_161 wi_X11_named ws_X11_named wz_X11 hy_X11_named ⟨(Nat.le_of_ble_eq_true rfl), (Nat.le_of_ble_eq_true rfl)⟩ ⟨c1393, z1393⟩ (Nat.le_of_ble_eq_true rfl) rfl dL_law_1393 ?_
  refine ev_aload_n C.1 (x := .ref l2) rfl trivial dL_law_1396 ?_
  obtain ⟨eo1397, hs⟩ := kO_at hs
  obtain ⟨x1397, h1397, e1397, hs⟩ := cI_at hs
  obtain ⟨c1397, z1397, hs⟩ := ck_at hs
  refine ev_callV C.1 (T_X14_named _ _ _ _ e1397) (ci := 14) rfl eo1397 wc_X14_named wm_L_164 wi_X14_named ws_X14_named wz_X14 hy_X14_named ⟨(Nat.le_of_ble_eq_true rfl), (Nat.le_of_ble_eq_true rfl)⟩ ⟨c1397, z1397⟩ (Nat.le_of_ble_eq_true rfl) rfl dL_law_1397 ?_
  refine ev_icmp_eq C.1 (tgt := 1705) (by decide) dL_law_1400 (fun q1400 => ?_) (fun q1400 => ?_)
  · replace hs := (if_pos q1400).symm.trans hs
    exact (t_L_law_1705 C K23 hs)
  · replace hs := (if_neg q1400).symm.trans hs
    obtain ⟨hw9, hc9, hz9⟩ := wE_at hs
    refine Ev.widen hc9 hz9 ?_
    have hs := hw9
    refine ev_iconst C.1 (v := 0) dL_law_1403 (by decide) ?_
    obtain ⟨hz, rfl, rfl⟩ := rtZ_at hs
    exact ev_zret C.1 rfl hz rfl (Nat.le_refl _) (Nat.le_refl _) rfl dL_law_1404
theorem t_L_law_1384 (C : CxS p l s m args meth c B0 X L9 xs9) {k23 : Nat → Nat → Nat → Int32 → aH → Nat → Nat → aP} (K23 : ∀ (l1 : Nat) (l2 : Nat) (l3 : Nat) (l4 : Int32) (h : aH) (c9 z9 : Nat), k23 l1 l2 l3 l4 h c9 z9 = some (r, h', mc, ms) → Ev p l e { frames := 20, cells := mc, slots := ms, locals := 766 } s m args below meth c D B0 X ws0 r h' mc ms 7 c9 z9 23 [some (.ref (aE + 5)), some (.ref l1), some (.ref l2), some (.ref l3), some (.int l4), none, none] [] h) {l1 : Nat} {l2 : Nat} {l3 : Nat} {l4 : Int32} {s0 : Int32} {s1 : Int32} {s2 : Nat} {s3 : Int32} {h : aH} {c9 z9 : Nat} (hs : s_L_law_1384 L9 xs9 k23 l1 l2 l3 l4 s0 s1 s2 s3 h c9 z9 = some (r, h', mc, ms)) : Ev p l e { frames := 20, cells := mc, slots := ms, locals := 766 } s m args below meth c D B0 X ws0 r h' mc ms 7 c9 z9 1384 [some (.ref (aE + 5)), some (.ref l1), some (.ref l2), some (.ref l3), some (.int l4), none, none] [.int s0, .int s1, .ref s2, .int s3] h := by
  unfold s_L_law_1384 at hs
  obtain ⟨eo1384, hs⟩ := kO_at hs
  obtain ⟨x1384, h1384, e1384, hs⟩ := cI_at hs
  obtain ⟨c1384, z1384, hs⟩ := ck_at hs
  refine ev_callV C.1 (T_X14_guess _ _ _ _ _ _ e1384) (ci := 14) rfl eo1384 wc_X14_guess wm_L_160 wi_X14_guess ws_X14_guess wz_X14 hy_X14_guess ⟨(Nat.le_of_ble_eq_true rfl), (Nat.le_of_ble_eq_true rfl)⟩ ⟨c1384, z1384⟩ (Nat.le_of_ble_eq_true rfl) rfl dL_law_1384 ?_
  refine ev_icmp_eq C.1 (tgt := 1705) (by decide) dL_law_1387 (fun q1387 => ?_) (fun q1387 => ?_)
  · replace hs := (if_pos q1387).symm.trans hs
    exact (t_L_law_1705 C K23 hs)
  · replace hs := (if_neg q1387).symm.trans hs
    obtain ⟨hw9, hc9, hz9⟩ := wE_at hs
    refine Ev.widen hc9 hz9 ?_
    have hs := hw9
    refine ev_iconst C.1 (v := 0) dL_law_1390 (by decide) ?_
    obtain ⟨hz, rfl, rfl⟩ := rtZ_at hs
    exact ev_zret C.1 rfl hz rfl (Nat.le_refl _) (Nat.le_refl _) rfl dL_law_1391
theorem t_L_law_1360 (C : CxS p l s m args meth c B0 X L9 xs9) {k23 : Nat → Nat → Nat → Int32 → aH → Nat → Nat → aP} (K23 : ∀ (l1 : Nat) (l2 : Nat) (l3 : Nat) (l4 : Int32) (h : aH) (c9 z9 : Nat), k23 l1 l2 l3 l4 h c9 z9 = some (r, h', mc, ms) → Ev p l e { frames := 20, cells := mc, slots := ms, locals := 766 } s m args below meth c D B0 X ws0 r h' mc ms 7 c9 z9 23 [some (.ref (aE + 5)), some (.ref l1), some (.ref l2), some (.ref l3), some (.int l4), none, none] [] h) {l1 : Nat} {l2 : Nat} {l3 : Nat} {l4 : Int32} {s0 : Int32} {s1 : Int32} {s2 : Nat} {h : aH} {c9 z9 : Nat} (hs : s_L_law_1360 L9 xs9 k23 l1 l2 l3 l4 s0 s1 s2 h c9 z9 = some (r, h', mc, ms)) : Ev p l e { frames := 20, cells := mc, slots := ms, locals := 766 } s m args below meth c D B0 X ws0 r h' mc ms 7 c9 z9 1360 [some (.ref (aE + 5)), some (.ref l1), some (.ref l2), some (.ref l3), some (.int l4), none, none] [.int s0, .int s1, .ref s2] h := by
  unfold s_L_law_1360 at hs
  obtain ⟨eo1360, hs⟩ := kO_at hs
  obtain ⟨x1360, h1360, n1360, y1360, e1360, hs⟩ := dI_at hs
  obtain ⟨c1360, z1360, hs⟩ := ck_at hs
  refine ev_callV C.1 (T_X11_guess _ _ _ _ _ _ _ _ e1360) (ci := 11) rfl eo1360 wc_X11_guess wm_L_156 wi_X11_guess ws_X11_guess wz_X11 hy_X11_guess ⟨(Nat.le_of_ble_eq_true rfl), (Nat.le_of_ble_eq_true rfl)⟩ ⟨c1360, z1360⟩ (Nat.le_of_ble_eq_true rfl) rfl dL_law_1360 ?_
  refine ev_aload_n C.1 (x := .ref l2) rfl trivial dL_law_1363 ?_
  refine ev_aload_n C.1 (x := .ref (aE + 5)) rfl trivial dL_law_1364 ?_
  refine ev_iload C.1 rfl dL_law_1365 ?_
  refine ev_iconst C.1 (v := 1) dL_law_1367 (by decide) ?_
  refine ev_iadd C.1 dL_law_1368 ?_
  obtain ⟨x1369, e1369, hs⟩ := aB hs
  refine ev_sX C.1 C.2 e1369 dL_law_1369 ?_
  refine ev_aload_n C.1 (x := .ref (aE + 5)) rfl trivial dL_law_1370 ?_
  refine ev_iload C.1 rfl dL_law_1371 ?_
  refine ev_iconst C.1 (v := 2) dL_law_1373 (by decide) ?_
  refine ev_iadd C.1 dL_law_1374 ?_
  obtain ⟨x1375, e1375, hs⟩ := aB hs
  refine ev_sX C.1 C.2 e1375 dL_law_1375 ?_
  refine ev_if_eq C.1 (tgt := 1383) (by decide) dL_law_1376 (fun q1376 => ?_) (fun q1376 => ?_)
  · replace hs := (if_pos q1376).symm.trans hs
    refine ev_iconst C.1 (v := 0) dL_law_1383 (by decide) ?_
    exact (t_L_law_1384 C K23 hs)
  · replace hs := (if_neg q1376).symm.trans hs
    refine ev_iconst C.1 (v := 1) dL_law_1379 (by decide) ?_
    refine ev_goto C.1 (tgt := 1384) (by decide) dL_law_1380 ?_
    exact (t_L_law_1384 C K23 hs)
theorem t_L_law_1339 (C : CxS p l s m args meth c B0 X L9 xs9) {k23 : Nat → Nat → Nat → Int32 → aH → Nat → Nat → aP} (K23 : ∀ (l1 : Nat) (l2 : Nat) (l3 : Nat) (l4 : Int32) (h : aH) (c9 z9 : Nat), k23 l1 l2 l3 l4 h c9 z9 = some (r, h', mc, ms) → Ev p l e { frames := 20, cells := mc, slots := ms, locals := 766 } s m args below meth c D B0 X ws0 r h' mc ms 7 c9 z9 23 [some (.ref (aE + 5)), some (.ref l1), some (.ref l2), some (.ref l3), some (.int l4), none, none] [] h) {l1 : Nat} {l2 : Nat} {l3 : Nat} {l4 : Int32} {h : aH} {c9 z9 : Nat} (hs : s_L_law_1339 L9 xs9 k23 l1 l2 l3 l4 h c9 z9 = some (r, h', mc, ms)) : Ev p l e { frames := 20, cells := mc, slots := ms, locals := 766 } s m args below meth c D B0 X ws0 r h' mc ms 7 c9 z9 1339 [some (.ref (aE + 5)), some (.ref l1), some (.ref l2), some (.ref l3), some (.int l4), none, none] [] h := by
  unfold s_L_law_1339 at hs
  refine ev_aload_n C.1 (x := .ref l1) rfl trivial dL_law_1339 ?_
  refine ev_aload_n C.1 (x := .ref (aE + 5)) rfl trivial dL_law_1340 ?_
  refine ev_iload C.1 rfl dL_law_1341 ?_
  refine ev_iconst C.1 (v := 1) dL_law_1343 (by decide) ?_
  refine ev_iadd C.1 dL_law_1344 ?_
  obtain ⟨x1345, e1345, hs⟩ := aB hs
  refine ev_sX C.1 C.2 e1345 dL_law_1345 ?_
  refine ev_aload_n C.1 (x := .ref (aE + 5)) rfl trivial dL_law_1346 ?_
  refine ev_iload C.1 rfl dL_law_1347 ?_
  refine ev_iconst C.1 (v := 2) dL_law_1349 (by decide) ?_
  refine ev_iadd C.1 dL_law_1350 ?_
  obtain ⟨x1351, e1351, hs⟩ := aB hs
  refine ev_sX C.1 C.2 e1351 dL_law_1351 ?_
  refine ev_if_eq C.1 (tgt := 1359) (by decide) dL_law_1352 (fun q1352 => ?_) (fun q1352 => ?_)
  · replace hs := (if_pos q1352).symm.trans hs
    refine ev_iconst C.1 (v := 0) dL_law_1359 (by decide) ?_
    exact (t_L_law_1360 C K23 hs)
  · replace hs := (if_neg q1352).symm.trans hs
    refine ev_iconst C.1 (v := 1) dL_law_1355 (by decide) ?_
    refine ev_goto C.1 (tgt := 1360) (by decide) dL_law_1356 ?_
    exact (t_L_law_1360 C K23 hs)
theorem t_L_law_1314 (C : CxS p l s m args meth c B0 X L9 xs9) {k23 : Nat → Nat → Nat → Int32 → aH → Nat → Nat → aP} (K23 : ∀ (l1 : Nat) (l2 : Nat) (l3 : Nat) (l4 : Int32) (h : aH) (c9 z9 : Nat), k23 l1 l2 l3 l4 h c9 z9 = some (r, h', mc, ms) → Ev p l e { frames := 20, cells := mc, slots := ms, locals := 766 } s m args below meth c D B0 X ws0 r h' mc ms 7 c9 z9 23 [some (.ref (aE + 5)), some (.ref l1), some (.ref l2), some (.ref l3), some (.int l4), none, none] [] h) {l1 : Nat} {l2 : Nat} {l3 : Nat} {l4 : Int32} {h : aH} {c9 z9 : Nat} (hs : s_L_law_1314 L9 xs9 k23 l1 l2 l3 l4 h c9 z9 = some (r, h', mc, ms)) : Ev p l e { frames := 20, cells := mc, slots := ms, locals := 766 } s m args below meth c D B0 X ws0 r h' mc ms 7 c9 z9 1314 [some (.ref (aE + 5)), some (.ref l1), some (.ref l2), some (.ref l3), some (.int l4), none, none] [] h := by
  unfold s_L_law_1314 at hs
  refine ev_aload_n C.1 (x := .ref l1) rfl trivial dL_law_1314 ?_
  refine ev_aload_n C.1 (x := .ref (aE + 5)) rfl trivial dL_law_1315 ?_
  refine ev_iload C.1 rfl dL_law_1316 ?_
  refine ev_iconst C.1 (v := 1) dL_law_1318 (by decide) ?_
  refine ev_iadd C.1 dL_law_1319 ?_
  obtain ⟨x1320, e1320, hs⟩ := aB hs
  refine ev_sX C.1 C.2 e1320 dL_law_1320 ?_
  obtain ⟨eo1321, hs⟩ := kO_at hs
  obtain ⟨x1321, h1321, n1321, y1321, e1321, hs⟩ := dI_at hs
  obtain ⟨c1321, z1321, hs⟩ := ck_at hs
  refine ev_callV C.1 (T_X11_canBe _ _ _ _ _ _ _ e1321) (ci := 11) rfl eo1321 wc_X11_canBe wm_L_152 wi_X11_canBe ws_X11_canBe wz_X11 hy_X11_canBe ⟨(Nat.le_of_ble_eq_true rfl), (Nat.le_of_ble_eq_true rfl)⟩ ⟨c1321, z1321⟩ (Nat.le_of_ble_eq_true rfl) rfl dL_law_1321 ?_
  refine ev_aload_n C.1 (x := .ref l2) rfl trivial dL_law_1324 ?_
  refine ev_aload_n C.1 (x := .ref (aE + 5)) rfl trivial dL_law_1325 ?_
  refine ev_iload C.1 rfl dL_law_1326 ?_
  refine ev_iconst C.1 (v := 1) dL_law_1328 (by decide) ?_
  refine ev_iadd C.1 dL_law_1329 ?_
  obtain ⟨x1330, e1330, hs⟩ := aB hs
  refine ev_sX C.1 C.2 e1330 dL_law_1330 ?_
  obtain ⟨eo1331, hs⟩ := kO_at hs
  obtain ⟨x1331, h1331, e1331, hs⟩ := cI_at hs
  obtain ⟨c1331, z1331, hs⟩ := ck_at hs
  refine ev_callV C.1 (T_X14_canBe _ _ _ _ _ e1331) (ci := 14) rfl eo1331 wc_X14_canBe wm_L_155 wi_X14_canBe ws_X14_canBe wz_X14 hy_X14_canBe ⟨(Nat.le_of_ble_eq_true rfl), (Nat.le_of_ble_eq_true rfl)⟩ ⟨c1331, z1331⟩ (Nat.le_of_ble_eq_true rfl) rfl dL_law_1331 ?_
  refine ev_icmp_eq C.1 (tgt := 1705) (by decide) dL_law_1334 (fun q1334 => ?_) (fun q1334 => ?_)
  · replace hs := (if_pos q1334).symm.trans hs
    exact (t_L_law_1705 C K23 hs)
  · replace hs := (if_neg q1334).symm.trans hs
    obtain ⟨hw9, hc9, hz9⟩ := wE_at hs
    refine Ev.widen hc9 hz9 ?_
    have hs := hw9
    refine ev_iconst C.1 (v := 0) dL_law_1337 (by decide) ?_
    obtain ⟨hz, rfl, rfl⟩ := rtZ_at hs
    exact ev_zret C.1 rfl hz rfl (Nat.le_refl _) (Nat.le_refl _) rfl dL_law_1338
theorem t_L_law_1289 (C : CxS p l s m args meth c B0 X L9 xs9) {k23 : Nat → Nat → Nat → Int32 → aH → Nat → Nat → aP} (K23 : ∀ (l1 : Nat) (l2 : Nat) (l3 : Nat) (l4 : Int32) (h : aH) (c9 z9 : Nat), k23 l1 l2 l3 l4 h c9 z9 = some (r, h', mc, ms) → Ev p l e { frames := 20, cells := mc, slots := ms, locals := 766 } s m args below meth c D B0 X ws0 r h' mc ms 7 c9 z9 23 [some (.ref (aE + 5)), some (.ref l1), some (.ref l2), some (.ref l3), some (.int l4), none, none] [] h) {l1 : Nat} {l2 : Nat} {l3 : Nat} {l4 : Int32} {h : aH} {c9 z9 : Nat} (hs : s_L_law_1289 L9 xs9 k23 l1 l2 l3 l4 h c9 z9 = some (r, h', mc, ms)) : Ev p l e { frames := 20, cells := mc, slots := ms, locals := 766 } s m args below meth c D B0 X ws0 r h' mc ms 7 c9 z9 1289 [some (.ref (aE + 5)), some (.ref l1), some (.ref l2), some (.ref l3), some (.int l4), none, none] [] h := by
  unfold s_L_law_1289 at hs
  refine ev_aload_n C.1 (x := .ref l1) rfl trivial dL_law_1289 ?_
  refine ev_aload_n C.1 (x := .ref (aE + 5)) rfl trivial dL_law_1290 ?_
  refine ev_iload C.1 rfl dL_law_1291 ?_
  refine ev_iconst C.1 (v := 1) dL_law_1293 (by decide) ?_
  refine ev_iadd C.1 dL_law_1294 ?_
  obtain ⟨x1295, e1295, hs⟩ := aB hs
  refine ev_sX C.1 C.2 e1295 dL_law_1295 ?_
  obtain ⟨eo1296, hs⟩ := kO_at hs
  obtain ⟨x1296, h1296, n1296, y1296, e1296, hs⟩ := dI_at hs
  obtain ⟨c1296, z1296, hs⟩ := ck_at hs
  refine ev_callV C.1 (T_X11_can _ _ _ _ _ _ _ e1296) (ci := 11) rfl eo1296 wc_X11_can wm_L_148 wi_X11_can ws_X11_can wz_X11 hy_X11_can ⟨(Nat.le_of_ble_eq_true rfl), (Nat.le_of_ble_eq_true rfl)⟩ ⟨c1296, z1296⟩ (Nat.le_of_ble_eq_true rfl) rfl dL_law_1296 ?_
  refine ev_aload_n C.1 (x := .ref l2) rfl trivial dL_law_1299 ?_
  refine ev_aload_n C.1 (x := .ref (aE + 5)) rfl trivial dL_law_1300 ?_
  refine ev_iload C.1 rfl dL_law_1301 ?_
  refine ev_iconst C.1 (v := 1) dL_law_1303 (by decide) ?_
  refine ev_iadd C.1 dL_law_1304 ?_
  obtain ⟨x1305, e1305, hs⟩ := aB hs
  refine ev_sX C.1 C.2 e1305 dL_law_1305 ?_
  obtain ⟨eo1306, hs⟩ := kO_at hs
  obtain ⟨x1306, h1306, e1306, hs⟩ := cI_at hs
  obtain ⟨c1306, z1306, hs⟩ := ck_at hs
  refine ev_callV C.1 (T_X14_can _ _ _ _ _ e1306) (ci := 14) rfl eo1306 wc_X14_can wm_L_151 wi_X14_can ws_X14_can wz_X14 hy_X14_can ⟨(Nat.le_of_ble_eq_true rfl), (Nat.le_of_ble_eq_true rfl)⟩ ⟨c1306, z1306⟩ (Nat.le_of_ble_eq_true rfl) rfl dL_law_1306 ?_
  refine ev_icmp_eq C.1 (tgt := 1705) (by decide) dL_law_1309 (fun q1309 => ?_) (fun q1309 => ?_)
  · replace hs := (if_pos q1309).symm.trans hs
    exact (t_L_law_1705 C K23 hs)
  · replace hs := (if_neg q1309).symm.trans hs
    obtain ⟨hw9, hc9, hz9⟩ := wE_at hs
    refine Ev.widen hc9 hz9 ?_
    have hs := hw9
    refine ev_iconst C.1 (v := 0) dL_law_1312 (by decide) ?_
    obtain ⟨hz, rfl, rfl⟩ := rtZ_at hs
    exact ev_zret C.1 rfl hz rfl (Nat.le_refl _) (Nat.le_refl _) rfl dL_law_1313
theorem t_L_law_1240 (C : CxS p l s m args meth c B0 X L9 xs9) {k23 : Nat → Nat → Nat → Int32 → aH → Nat → Nat → aP} (K23 : ∀ (l1 : Nat) (l2 : Nat) (l3 : Nat) (l4 : Int32) (h : aH) (c9 z9 : Nat), k23 l1 l2 l3 l4 h c9 z9 = some (r, h', mc, ms) → Ev p l e { frames := 20, cells := mc, slots := ms, locals := 766 } s m args below meth c D B0 X ws0 r h' mc ms 7 c9 z9 23 [some (.ref (aE + 5)), some (.ref l1), some (.ref l2), some (.ref l3), some (.int l4), none, none] [] h) {l1 : Nat} {l2 : Nat} {l3 : Nat} {l4 : Int32} {h : aH} {c9 z9 : Nat} (hs : s_L_law_1240 L9 xs9 k23 l1 l2 l3 l4 h c9 z9 = some (r, h', mc, ms)) : Ev p l e { frames := 20, cells := mc, slots := ms, locals := 766 } s m args below meth c D B0 X ws0 r h' mc ms 7 c9 z9 1240 [some (.ref (aE + 5)), some (.ref l1), some (.ref l2), some (.ref l3), some (.int l4), none, none] [] h := by
  unfold s_L_law_1240 at hs
  refine ev_aload_n C.1 (x := .ref l1) rfl trivial dL_law_1240 ?_
  refine ev_aload_n C.1 (x := .ref (aE + 5)) rfl trivial dL_law_1241 ?_
  refine ev_iload C.1 rfl dL_law_1242 ?_
  refine ev_iconst C.1 (v := 1) dL_law_1244 (by decide) ?_
  refine ev_iadd C.1 dL_law_1245 ?_
  obtain ⟨x1246, e1246, hs⟩ := aB hs
  refine ev_sX C.1 C.2 e1246 dL_law_1246 ?_
  refine ev_aload_n C.1 (x := .ref (aE + 5)) rfl trivial dL_law_1247 ?_
  refine ev_iload C.1 rfl dL_law_1248 ?_
  refine ev_iconst C.1 (v := 2) dL_law_1250 (by decide) ?_
  refine ev_iadd C.1 dL_law_1251 ?_
  obtain ⟨x1252, e1252, hs⟩ := aB hs
  refine ev_sX C.1 C.2 e1252 dL_law_1252 ?_
  refine ev_aload_n C.1 (x := .ref (aE + 5)) rfl trivial dL_law_1253 ?_
  refine ev_iload C.1 rfl dL_law_1254 ?_
  refine ev_iconst C.1 (v := 3) dL_law_1256 (by decide) ?_
  refine ev_iadd C.1 dL_law_1257 ?_
  obtain ⟨x1258, e1258, hs⟩ := aB hs
  refine ev_sX C.1 C.2 e1258 dL_law_1258 ?_
  obtain ⟨eo1259, hs⟩ := kO_at hs
  obtain ⟨x1259, h1259, e1259, hs⟩ := cI_at hs
  obtain ⟨c1259, z1259, hs⟩ := ck_at hs
  refine ev_callV C.1 (T_X11_told _ _ _ _ _ _ _ e1259) (ci := 11) rfl eo1259 wc_X11_told wm_L_143 wi_X11_told ws_X11_told wz_X11 hy_X11_told ⟨(Nat.le_of_ble_eq_true rfl), (Nat.le_of_ble_eq_true rfl)⟩ ⟨c1259, z1259⟩ (Nat.le_of_ble_eq_true rfl) rfl dL_law_1259 ?_
  refine ev_aload_n C.1 (x := .ref l2) rfl trivial dL_law_1262 ?_
  refine ev_aload_n C.1 (x := .ref (aE + 5)) rfl trivial dL_law_1263 ?_
  refine ev_iload C.1 rfl dL_law_1264 ?_
  refine ev_iconst C.1 (v := 1) dL_law_1266 (by decide) ?_
  refine ev_iadd C.1 dL_law_1267 ?_
  obtain ⟨x1268, e1268, hs⟩ := aB hs
  refine ev_sX C.1 C.2 e1268 dL_law_1268 ?_
  refine ev_aload_n C.1 (x := .ref (aE + 5)) rfl trivial dL_law_1269 ?_
  refine ev_iload C.1 rfl dL_law_1270 ?_
  refine ev_iconst C.1 (v := 2) dL_law_1272 (by decide) ?_
  refine ev_iadd C.1 dL_law_1273 ?_
  obtain ⟨x1274, e1274, hs⟩ := aB hs
  refine ev_sX C.1 C.2 e1274 dL_law_1274 ?_
  refine ev_aload_n C.1 (x := .ref (aE + 5)) rfl trivial dL_law_1275 ?_
  refine ev_iload C.1 rfl dL_law_1276 ?_
  refine ev_iconst C.1 (v := 3) dL_law_1278 (by decide) ?_
  refine ev_iadd C.1 dL_law_1279 ?_
  obtain ⟨x1280, e1280, hs⟩ := aB hs
  refine ev_sX C.1 C.2 e1280 dL_law_1280 ?_
  obtain ⟨eo1281, hs⟩ := kO_at hs
  obtain ⟨x1281, h1281, e1281, hs⟩ := cI_at hs
  obtain ⟨c1281, z1281, hs⟩ := ck_at hs
  refine ev_callV C.1 (T_X14_told _ _ _ _ _ _ _ e1281) (ci := 14) rfl eo1281 wc_X14_told wm_L_147 wi_X14_told ws_X14_told wz_X14 hy_X14_told ⟨(Nat.le_of_ble_eq_true rfl), (Nat.le_of_ble_eq_true rfl)⟩ ⟨c1281, z1281⟩ (Nat.le_of_ble_eq_true rfl) rfl dL_law_1281 ?_
  refine ev_icmp_eq C.1 (tgt := 1705) (by decide) dL_law_1284 (fun q1284 => ?_) (fun q1284 => ?_)
  · replace hs := (if_pos q1284).symm.trans hs
    exact (t_L_law_1705 C K23 hs)
  · replace hs := (if_neg q1284).symm.trans hs
    obtain ⟨hw9, hc9, hz9⟩ := wE_at hs
    refine Ev.widen hc9 hz9 ?_
    have hs := hw9
    refine ev_iconst C.1 (v := 0) dL_law_1287 (by decide) ?_
    obtain ⟨hz, rfl, rfl⟩ := rtZ_at hs
    exact ev_zret C.1 rfl hz rfl (Nat.le_refl _) (Nat.le_refl _) rfl dL_law_1288
theorem t_L_law_1215 (C : CxS p l s m args meth c B0 X L9 xs9) {k23 : Nat → Nat → Nat → Int32 → aH → Nat → Nat → aP} (K23 : ∀ (l1 : Nat) (l2 : Nat) (l3 : Nat) (l4 : Int32) (h : aH) (c9 z9 : Nat), k23 l1 l2 l3 l4 h c9 z9 = some (r, h', mc, ms) → Ev p l e { frames := 20, cells := mc, slots := ms, locals := 766 } s m args below meth c D B0 X ws0 r h' mc ms 7 c9 z9 23 [some (.ref (aE + 5)), some (.ref l1), some (.ref l2), some (.ref l3), some (.int l4), none, none] [] h) {l1 : Nat} {l2 : Nat} {l3 : Nat} {l4 : Int32} {h : aH} {c9 z9 : Nat} (hs : s_L_law_1215 L9 xs9 k23 l1 l2 l3 l4 h c9 z9 = some (r, h', mc, ms)) : Ev p l e { frames := 20, cells := mc, slots := ms, locals := 766 } s m args below meth c D B0 X ws0 r h' mc ms 7 c9 z9 1215 [some (.ref (aE + 5)), some (.ref l1), some (.ref l2), some (.ref l3), some (.int l4), none, none] [] h := by
  unfold s_L_law_1215 at hs
  refine ev_aload_n C.1 (x := .ref l1) rfl trivial dL_law_1215 ?_
  refine ev_aload_n C.1 (x := .ref (aE + 5)) rfl trivial dL_law_1216 ?_
  refine ev_iload C.1 rfl dL_law_1217 ?_
  refine ev_iconst C.1 (v := 1) dL_law_1219 (by decide) ?_
  refine ev_iadd C.1 dL_law_1220 ?_
  obtain ⟨x1221, e1221, hs⟩ := aB hs
  refine ev_sX C.1 C.2 e1221 dL_law_1221 ?_
  obtain ⟨eo1222, hs⟩ := kO_at hs
  obtain ⟨x1222, h1222, e1222, hs⟩ := cI_at hs
  obtain ⟨c1222, z1222, hs⟩ := ck_at hs
  refine ev_callV C.1 (T_X11_tick _ _ _ _ _ e1222) (ci := 11) rfl eo1222 wc_X11_tick wm_L_139 wi_X11_tick ws_X11_tick wz_X11 hy_X11_tick ⟨(Nat.le_of_ble_eq_true rfl), (Nat.le_of_ble_eq_true rfl)⟩ ⟨c1222, z1222⟩ (Nat.le_of_ble_eq_true rfl) rfl dL_law_1222 ?_
  refine ev_aload_n C.1 (x := .ref l2) rfl trivial dL_law_1225 ?_
  refine ev_aload_n C.1 (x := .ref (aE + 5)) rfl trivial dL_law_1226 ?_
  refine ev_iload C.1 rfl dL_law_1227 ?_
  refine ev_iconst C.1 (v := 1) dL_law_1229 (by decide) ?_
  refine ev_iadd C.1 dL_law_1230 ?_
  obtain ⟨x1231, e1231, hs⟩ := aB hs
  refine ev_sX C.1 C.2 e1231 dL_law_1231 ?_
  obtain ⟨eo1232, hs⟩ := kO_at hs
  obtain ⟨x1232, h1232, e1232, hs⟩ := cI_at hs
  obtain ⟨c1232, z1232, hs⟩ := ck_at hs
  refine ev_callV C.1 (T_X14_tick _ _ _ _ _ e1232) (ci := 14) rfl eo1232 wc_X14_tick wm_L_142 wi_X14_tick ws_X14_tick wz_X14 hy_X14_tick ⟨(Nat.le_of_ble_eq_true rfl), (Nat.le_of_ble_eq_true rfl)⟩ ⟨c1232, z1232⟩ (Nat.le_of_ble_eq_true rfl) rfl dL_law_1232 ?_
  refine ev_icmp_eq C.1 (tgt := 1705) (by decide) dL_law_1235 (fun q1235 => ?_) (fun q1235 => ?_)
  · replace hs := (if_pos q1235).symm.trans hs
    exact (t_L_law_1705 C K23 hs)
  · replace hs := (if_neg q1235).symm.trans hs
    obtain ⟨hw9, hc9, hz9⟩ := wE_at hs
    refine Ev.widen hc9 hz9 ?_
    have hs := hw9
    refine ev_iconst C.1 (v := 0) dL_law_1238 (by decide) ?_
    obtain ⟨hz, rfl, rfl⟩ := rtZ_at hs
    exact ev_zret C.1 rfl hz rfl (Nat.le_refl _) (Nat.le_refl _) rfl dL_law_1239
theorem t_L_law_1154 (C : CxS p l s m args meth c B0 X L9 xs9) {k23 : Nat → Nat → Nat → Int32 → aH → Nat → Nat → aP} (K23 : ∀ (l1 : Nat) (l2 : Nat) (l3 : Nat) (l4 : Int32) (h : aH) (c9 z9 : Nat), k23 l1 l2 l3 l4 h c9 z9 = some (r, h', mc, ms) → Ev p l e { frames := 20, cells := mc, slots := ms, locals := 766 } s m args below meth c D B0 X ws0 r h' mc ms 7 c9 z9 23 [some (.ref (aE + 5)), some (.ref l1), some (.ref l2), some (.ref l3), some (.int l4), none, none] [] h) {l1 : Nat} {l2 : Nat} {l3 : Nat} {l4 : Int32} {h : aH} {c9 z9 : Nat} (hs : s_L_law_1154 L9 xs9 k23 l1 l2 l3 l4 h c9 z9 = some (r, h', mc, ms)) : Ev p l e { frames := 20, cells := mc, slots := ms, locals := 766 } s m args below meth c D B0 X ws0 r h' mc ms 7 c9 z9 1154 [some (.ref (aE + 5)), some (.ref l1), some (.ref l2), some (.ref l3), some (.int l4), none, none] [] h := by
  unfold s_L_law_1154 at hs
  refine ev_aload_n C.1 (x := .ref l1) rfl trivial dL_law_1154 ?_
  refine ev_aload_n C.1 (x := .ref (aE + 5)) rfl trivial dL_law_1155 ?_
  refine ev_iload C.1 rfl dL_law_1156 ?_
  refine ev_iconst C.1 (v := 1) dL_law_1158 (by decide) ?_
  refine ev_iadd C.1 dL_law_1159 ?_
  obtain ⟨x1160, e1160, hs⟩ := aB hs
  refine ev_sX C.1 C.2 e1160 dL_law_1160 ?_
  refine ev_aload_n C.1 (x := .ref (aE + 5)) rfl trivial dL_law_1161 ?_
  refine ev_iload C.1 rfl dL_law_1162 ?_
  refine ev_iconst C.1 (v := 2) dL_law_1164 (by decide) ?_
  refine ev_iadd C.1 dL_law_1165 ?_
  obtain ⟨x1166, e1166, hs⟩ := aB hs
  refine ev_sX C.1 C.2 e1166 dL_law_1166 ?_
  refine ev_aload_n C.1 (x := .ref (aE + 5)) rfl trivial dL_law_1167 ?_
  refine ev_iload C.1 rfl dL_law_1168 ?_
  refine ev_iconst C.1 (v := 3) dL_law_1170 (by decide) ?_
  refine ev_iadd C.1 dL_law_1171 ?_
  obtain ⟨x1172, e1172, hs⟩ := aB hs
  refine ev_sX C.1 C.2 e1172 dL_law_1172 ?_
  refine ev_aload_n C.1 (x := .ref (aE + 5)) rfl trivial dL_law_1173 ?_
  refine ev_iload C.1 rfl dL_law_1174 ?_
  refine ev_iconst C.1 (v := 4) dL_law_1176 (by decide) ?_
  refine ev_iadd C.1 dL_law_1177 ?_
  obtain ⟨x1178, e1178, hs⟩ := aB hs
  refine ev_sX C.1 C.2 e1178 dL_law_1178 ?_
  obtain ⟨eo1179, hs⟩ := kO_at hs
  obtain ⟨x1179, h1179, e1179, hs⟩ := cI_at hs
  obtain ⟨c1179, z1179, hs⟩ := ck_at hs
  refine ev_callV C.1 (T_X11_stays _ _ _ _ _ _ _ _ e1179) (ci := 11) rfl eo1179 wc_X11_stays wm_L_135 wi_X11_stays ws_X11_stays wz_X11 hy_X11_stays ⟨(Nat.le_of_ble_eq_true rfl), (Nat.le_of_ble_eq_true rfl)⟩ ⟨c1179, z1179⟩ (Nat.le_of_ble_eq_true rfl) rfl dL_law_1179 ?_
  refine ev_aload_n C.1 (x := .ref l2) rfl trivial dL_law_1182 ?_
  refine ev_aload_n C.1 (x := .ref (aE + 5)) rfl trivial dL_law_1183 ?_
  refine ev_iload C.1 rfl dL_law_1184 ?_
  refine ev_iconst C.1 (v := 1) dL_law_1186 (by decide) ?_
  refine ev_iadd C.1 dL_law_1187 ?_
  obtain ⟨x1188, e1188, hs⟩ := aB hs
  refine ev_sX C.1 C.2 e1188 dL_law_1188 ?_
  refine ev_aload_n C.1 (x := .ref (aE + 5)) rfl trivial dL_law_1189 ?_
  refine ev_iload C.1 rfl dL_law_1190 ?_
  refine ev_iconst C.1 (v := 2) dL_law_1192 (by decide) ?_
  refine ev_iadd C.1 dL_law_1193 ?_
  obtain ⟨x1194, e1194, hs⟩ := aB hs
  refine ev_sX C.1 C.2 e1194 dL_law_1194 ?_
  refine ev_aload_n C.1 (x := .ref (aE + 5)) rfl trivial dL_law_1195 ?_
  refine ev_iload C.1 rfl dL_law_1196 ?_
  refine ev_iconst C.1 (v := 3) dL_law_1198 (by decide) ?_
  refine ev_iadd C.1 dL_law_1199 ?_
  obtain ⟨x1200, e1200, hs⟩ := aB hs
  refine ev_sX C.1 C.2 e1200 dL_law_1200 ?_
  refine ev_aload_n C.1 (x := .ref (aE + 5)) rfl trivial dL_law_1201 ?_
  refine ev_iload C.1 rfl dL_law_1202 ?_
  refine ev_iconst C.1 (v := 4) dL_law_1204 (by decide) ?_
  refine ev_iadd C.1 dL_law_1205 ?_
  obtain ⟨x1206, e1206, hs⟩ := aB hs
  refine ev_sX C.1 C.2 e1206 dL_law_1206 ?_
  obtain ⟨eo1207, hs⟩ := kO_at hs
  obtain ⟨x1207, h1207, e1207, hs⟩ := cI_at hs
  obtain ⟨c1207, z1207, hs⟩ := ck_at hs
  refine ev_callV C.1 (T_X14_stays _ _ _ _ _ _ _ _ e1207) (ci := 14) rfl eo1207 wc_X14_stays wm_L_138 wi_X14_stays ws_X14_stays wz_X14 hy_X14_stays ⟨(Nat.le_of_ble_eq_true rfl), (Nat.le_of_ble_eq_true rfl)⟩ ⟨c1207, z1207⟩ (Nat.le_of_ble_eq_true rfl) rfl dL_law_1207 ?_
  refine ev_icmp_eq C.1 (tgt := 1705) (by decide) dL_law_1210 (fun q1210 => ?_) (fun q1210 => ?_)
  · replace hs := (if_pos q1210).symm.trans hs
    exact (t_L_law_1705 C K23 hs)
  · replace hs := (if_neg q1210).symm.trans hs
    obtain ⟨hw9, hc9, hz9⟩ := wE_at hs
    refine Ev.widen hc9 hz9 ?_
    have hs := hw9
    refine ev_iconst C.1 (v := 0) dL_law_1213 (by decide) ?_
    obtain ⟨hz, rfl, rfl⟩ := rtZ_at hs
    exact ev_zret C.1 rfl hz rfl (Nat.le_refl _) (Nat.le_refl _) rfl dL_law_1214
theorem t_L_law_1145 (C : CxS p l s m args meth c B0 X L9 xs9) {k23 : Nat → Nat → Nat → Int32 → aH → Nat → Nat → aP} (K23 : ∀ (l1 : Nat) (l2 : Nat) (l3 : Nat) (l4 : Int32) (h : aH) (c9 z9 : Nat), k23 l1 l2 l3 l4 h c9 z9 = some (r, h', mc, ms) → Ev p l e { frames := 20, cells := mc, slots := ms, locals := 766 } s m args below meth c D B0 X ws0 r h' mc ms 7 c9 z9 23 [some (.ref (aE + 5)), some (.ref l1), some (.ref l2), some (.ref l3), some (.int l4), none, none] [] h) {l1 : Nat} {l2 : Nat} {l3 : Nat} {l4 : Int32} {s0 : Int32} {s1 : Int32} {s2 : Nat} {s3 : Int64} {h : aH} {c9 z9 : Nat} (hs : s_L_law_1145 L9 xs9 k23 l1 l2 l3 l4 s0 s1 s2 s3 h c9 z9 = some (r, h', mc, ms)) : Ev p l e { frames := 20, cells := mc, slots := ms, locals := 766 } s m args below meth c D B0 X ws0 r h' mc ms 7 c9 z9 1145 [some (.ref (aE + 5)), some (.ref l1), some (.ref l2), some (.ref l3), some (.int l4), none, none] [.int s0, .int s1, .ref s2, .long s3] h := by
  unfold s_L_law_1145 at hs
  obtain ⟨eo1145, hs⟩ := kO_at hs
  obtain ⟨x1145, h1145, e1145, hs⟩ := cJ_at hs
  obtain ⟨c1145, z1145, hs⟩ := ck_at hs
  refine ev_callV C.1 (T_X14_gain _ _ _ _ _ _ e1145) (ci := 14) rfl eo1145 wc_X14_gain wm_L_134 wi_X14_gain ws_X14_gain wz_X14 hy_X14_gain ⟨(Nat.le_of_ble_eq_true rfl), (Nat.le_of_ble_eq_true rfl)⟩ ⟨c1145, z1145⟩ (Nat.le_of_ble_eq_true rfl) rfl dL_law_1145 ?_
  refine ev_lcmp C.1 dL_law_1148 ?_
  refine ev_if_eq C.1 (tgt := 1705) (by decide) dL_law_1149 (fun q1149 => ?_) (fun q1149 => ?_)
  · replace hs := (if_pos q1149).symm.trans hs
    exact (t_L_law_1705 C K23 hs)
  · replace hs := (if_neg q1149).symm.trans hs
    obtain ⟨hw9, hc9, hz9⟩ := wE_at hs
    refine Ev.widen hc9 hz9 ?_
    have hs := hw9
    refine ev_iconst C.1 (v := 0) dL_law_1152 (by decide) ?_
    obtain ⟨hz, rfl, rfl⟩ := rtZ_at hs
    exact ev_zret C.1 rfl hz rfl (Nat.le_refl _) (Nat.le_refl _) rfl dL_law_1153
theorem t_L_law_1121 (C : CxS p l s m args meth c B0 X L9 xs9) {k23 : Nat → Nat → Nat → Int32 → aH → Nat → Nat → aP} (K23 : ∀ (l1 : Nat) (l2 : Nat) (l3 : Nat) (l4 : Int32) (h : aH) (c9 z9 : Nat), k23 l1 l2 l3 l4 h c9 z9 = some (r, h', mc, ms) → Ev p l e { frames := 20, cells := mc, slots := ms, locals := 766 } s m args below meth c D B0 X ws0 r h' mc ms 7 c9 z9 23 [some (.ref (aE + 5)), some (.ref l1), some (.ref l2), some (.ref l3), some (.int l4), none, none] [] h) {l1 : Nat} {l2 : Nat} {l3 : Nat} {l4 : Int32} {s0 : Int32} {s1 : Int32} {s2 : Nat} {h : aH} {c9 z9 : Nat} (hs : s_L_law_1121 L9 xs9 k23 l1 l2 l3 l4 s0 s1 s2 h c9 z9 = some (r, h', mc, ms)) : Ev p l e { frames := 20, cells := mc, slots := ms, locals := 766 } s m args below meth c D B0 X ws0 r h' mc ms 7 c9 z9 1121 [some (.ref (aE + 5)), some (.ref l1), some (.ref l2), some (.ref l3), some (.int l4), none, none] [.int s0, .int s1, .ref s2] h := by
  unfold s_L_law_1121 at hs
  obtain ⟨eo1121, hs⟩ := kO_at hs
  obtain ⟨x1121, h1121, e1121, hs⟩ := cJ_at hs
  obtain ⟨c1121, z1121, hs⟩ := ck_at hs
  refine ev_callV C.1 (T_X11_gain _ _ _ _ _ _ e1121) (ci := 11) rfl eo1121 wc_X11_gain wm_L_130 wi_X11_gain ws_X11_gain wz_X11 hy_X11_gain ⟨(Nat.le_of_ble_eq_true rfl), (Nat.le_of_ble_eq_true rfl)⟩ ⟨c1121, z1121⟩ (Nat.le_of_ble_eq_true rfl) rfl dL_law_1121 ?_
  refine ev_aload_n C.1 (x := .ref l2) rfl trivial dL_law_1124 ?_
  refine ev_aload_n C.1 (x := .ref (aE + 5)) rfl trivial dL_law_1125 ?_
  refine ev_iload C.1 rfl dL_law_1126 ?_
  refine ev_iconst C.1 (v := 1) dL_law_1128 (by decide) ?_
  refine ev_iadd C.1 dL_law_1129 ?_
  obtain ⟨x1130, e1130, hs⟩ := aB hs
  refine ev_sX C.1 C.2 e1130 dL_law_1130 ?_
  refine ev_aload_n C.1 (x := .ref (aE + 5)) rfl trivial dL_law_1131 ?_
  refine ev_iload C.1 rfl dL_law_1132 ?_
  refine ev_iconst C.1 (v := 2) dL_law_1134 (by decide) ?_
  refine ev_iadd C.1 dL_law_1135 ?_
  obtain ⟨x1136, e1136, hs⟩ := aB hs
  refine ev_sX C.1 C.2 e1136 dL_law_1136 ?_
  refine ev_if_eq C.1 (tgt := 1144) (by decide) dL_law_1137 (fun q1137 => ?_) (fun q1137 => ?_)
  · replace hs := (if_pos q1137).symm.trans hs
    refine ev_iconst C.1 (v := 0) dL_law_1144 (by decide) ?_
    exact (t_L_law_1145 C K23 hs)
  · replace hs := (if_neg q1137).symm.trans hs
    refine ev_iconst C.1 (v := 1) dL_law_1140 (by decide) ?_
    refine ev_goto C.1 (tgt := 1145) (by decide) dL_law_1141 ?_
    exact (t_L_law_1145 C K23 hs)
theorem t_L_law_1100 (C : CxS p l s m args meth c B0 X L9 xs9) {k23 : Nat → Nat → Nat → Int32 → aH → Nat → Nat → aP} (K23 : ∀ (l1 : Nat) (l2 : Nat) (l3 : Nat) (l4 : Int32) (h : aH) (c9 z9 : Nat), k23 l1 l2 l3 l4 h c9 z9 = some (r, h', mc, ms) → Ev p l e { frames := 20, cells := mc, slots := ms, locals := 766 } s m args below meth c D B0 X ws0 r h' mc ms 7 c9 z9 23 [some (.ref (aE + 5)), some (.ref l1), some (.ref l2), some (.ref l3), some (.int l4), none, none] [] h) {l1 : Nat} {l2 : Nat} {l3 : Nat} {l4 : Int32} {h : aH} {c9 z9 : Nat} (hs : s_L_law_1100 L9 xs9 k23 l1 l2 l3 l4 h c9 z9 = some (r, h', mc, ms)) : Ev p l e { frames := 20, cells := mc, slots := ms, locals := 766 } s m args below meth c D B0 X ws0 r h' mc ms 7 c9 z9 1100 [some (.ref (aE + 5)), some (.ref l1), some (.ref l2), some (.ref l3), some (.int l4), none, none] [] h := by
  unfold s_L_law_1100 at hs
  refine ev_aload_n C.1 (x := .ref l1) rfl trivial dL_law_1100 ?_
  refine ev_aload_n C.1 (x := .ref (aE + 5)) rfl trivial dL_law_1101 ?_
  refine ev_iload C.1 rfl dL_law_1102 ?_
  refine ev_iconst C.1 (v := 1) dL_law_1104 (by decide) ?_
  refine ev_iadd C.1 dL_law_1105 ?_
  obtain ⟨x1106, e1106, hs⟩ := aB hs
  refine ev_sX C.1 C.2 e1106 dL_law_1106 ?_
  refine ev_aload_n C.1 (x := .ref (aE + 5)) rfl trivial dL_law_1107 ?_
  refine ev_iload C.1 rfl dL_law_1108 ?_
  refine ev_iconst C.1 (v := 2) dL_law_1110 (by decide) ?_
  refine ev_iadd C.1 dL_law_1111 ?_
  obtain ⟨x1112, e1112, hs⟩ := aB hs
  refine ev_sX C.1 C.2 e1112 dL_law_1112 ?_
  refine ev_if_eq C.1 (tgt := 1120) (by decide) dL_law_1113 (fun q1113 => ?_) (fun q1113 => ?_)
  · replace hs := (if_pos q1113).symm.trans hs
    refine ev_iconst C.1 (v := 0) dL_law_1120 (by decide) ?_
    exact (t_L_law_1121 C K23 hs)
  · replace hs := (if_neg q1113).symm.trans hs
    refine ev_iconst C.1 (v := 1) dL_law_1116 (by decide) ?_
    refine ev_goto C.1 (tgt := 1121) (by decide) dL_law_1117 ?_
    exact (t_L_law_1121 C K23 hs)
theorem t_L_law_1051 (C : CxS p l s m args meth c B0 X L9 xs9) {k23 : Nat → Nat → Nat → Int32 → aH → Nat → Nat → aP} (K23 : ∀ (l1 : Nat) (l2 : Nat) (l3 : Nat) (l4 : Int32) (h : aH) (c9 z9 : Nat), k23 l1 l2 l3 l4 h c9 z9 = some (r, h', mc, ms) → Ev p l e { frames := 20, cells := mc, slots := ms, locals := 766 } s m args below meth c D B0 X ws0 r h' mc ms 7 c9 z9 23 [some (.ref (aE + 5)), some (.ref l1), some (.ref l2), some (.ref l3), some (.int l4), none, none] [] h) {l1 : Nat} {l2 : Nat} {l3 : Nat} {l4 : Int32} {h : aH} {c9 z9 : Nat} (hs : s_L_law_1051 L9 xs9 k23 l1 l2 l3 l4 h c9 z9 = some (r, h', mc, ms)) : Ev p l e { frames := 20, cells := mc, slots := ms, locals := 766 } s m args below meth c D B0 X ws0 r h' mc ms 7 c9 z9 1051 [some (.ref (aE + 5)), some (.ref l1), some (.ref l2), some (.ref l3), some (.int l4), none, none] [] h := by
  unfold s_L_law_1051 at hs
  refine ev_aload_n C.1 (x := .ref l1) rfl trivial dL_law_1051 ?_
  refine ev_aload_n C.1 (x := .ref (aE + 5)) rfl trivial dL_law_1052 ?_
  refine ev_iload C.1 rfl dL_law_1053 ?_
  refine ev_iconst C.1 (v := 1) dL_law_1055 (by decide) ?_
  refine ev_iadd C.1 dL_law_1056 ?_
  obtain ⟨x1057, e1057, hs⟩ := aB hs
  refine ev_sX C.1 C.2 e1057 dL_law_1057 ?_
  refine ev_aload_n C.1 (x := .ref (aE + 5)) rfl trivial dL_law_1058 ?_
  refine ev_iload C.1 rfl dL_law_1059 ?_
  refine ev_iconst C.1 (v := 2) dL_law_1061 (by decide) ?_
  refine ev_iadd C.1 dL_law_1062 ?_
  obtain ⟨x1063, e1063, hs⟩ := aB hs
  refine ev_sX C.1 C.2 e1063 dL_law_1063 ?_
  refine ev_aload_n C.1 (x := .ref (aE + 5)) rfl trivial dL_law_1064 ?_
  refine ev_iload C.1 rfl dL_law_1065 ?_
  refine ev_iconst C.1 (v := 3) dL_law_1067 (by decide) ?_
  refine ev_iadd C.1 dL_law_1068 ?_
  obtain ⟨x1069, e1069, hs⟩ := aB hs
  refine ev_sX C.1 C.2 e1069 dL_law_1069 ?_
  obtain ⟨eo1070, hs⟩ := kO_at hs
  obtain ⟨x1070, h1070, e1070, hs⟩ := cI_at hs
  obtain ⟨c1070, z1070, hs⟩ := ck_at hs
  refine ev_callV C.1 (T_X11_place _ _ _ _ _ _ _ e1070) (ci := 11) rfl eo1070 wc_X11_place wm_L_126 wi_X11_place ws_X11_place wz_X11 hy_X11_place ⟨(Nat.le_of_ble_eq_true rfl), (Nat.le_of_ble_eq_true rfl)⟩ ⟨c1070, z1070⟩ (Nat.le_of_ble_eq_true rfl) rfl dL_law_1070 ?_
  refine ev_aload_n C.1 (x := .ref l2) rfl trivial dL_law_1073 ?_
  refine ev_aload_n C.1 (x := .ref (aE + 5)) rfl trivial dL_law_1074 ?_
  refine ev_iload C.1 rfl dL_law_1075 ?_
  refine ev_iconst C.1 (v := 1) dL_law_1077 (by decide) ?_
  refine ev_iadd C.1 dL_law_1078 ?_
  obtain ⟨x1079, e1079, hs⟩ := aB hs
  refine ev_sX C.1 C.2 e1079 dL_law_1079 ?_
  refine ev_aload_n C.1 (x := .ref (aE + 5)) rfl trivial dL_law_1080 ?_
  refine ev_iload C.1 rfl dL_law_1081 ?_
  refine ev_iconst C.1 (v := 2) dL_law_1083 (by decide) ?_
  refine ev_iadd C.1 dL_law_1084 ?_
  obtain ⟨x1085, e1085, hs⟩ := aB hs
  refine ev_sX C.1 C.2 e1085 dL_law_1085 ?_
  refine ev_aload_n C.1 (x := .ref (aE + 5)) rfl trivial dL_law_1086 ?_
  refine ev_iload C.1 rfl dL_law_1087 ?_
  refine ev_iconst C.1 (v := 3) dL_law_1089 (by decide) ?_
  refine ev_iadd C.1 dL_law_1090 ?_
  obtain ⟨x1091, e1091, hs⟩ := aB hs
  refine ev_sX C.1 C.2 e1091 dL_law_1091 ?_
  obtain ⟨eo1092, hs⟩ := kO_at hs
  obtain ⟨x1092, h1092, e1092, hs⟩ := cI_at hs
  obtain ⟨c1092, z1092, hs⟩ := ck_at hs
  refine ev_callV C.1 (T_X14_place _ _ _ _ _ _ _ e1092) (ci := 14) rfl eo1092 wc_X14_place wm_L_129 wi_X14_place ws_X14_place wz_X14 hy_X14_place ⟨(Nat.le_of_ble_eq_true rfl), (Nat.le_of_ble_eq_true rfl)⟩ ⟨c1092, z1092⟩ (Nat.le_of_ble_eq_true rfl) rfl dL_law_1092 ?_
  refine ev_icmp_eq C.1 (tgt := 1705) (by decide) dL_law_1095 (fun q1095 => ?_) (fun q1095 => ?_)
  · replace hs := (if_pos q1095).symm.trans hs
    exact (t_L_law_1705 C K23 hs)
  · replace hs := (if_neg q1095).symm.trans hs
    obtain ⟨hw9, hc9, hz9⟩ := wE_at hs
    refine Ev.widen hc9 hz9 ?_
    have hs := hw9
    refine ev_iconst C.1 (v := 0) dL_law_1098 (by decide) ?_
    obtain ⟨hz, rfl, rfl⟩ := rtZ_at hs
    exact ev_zret C.1 rfl hz rfl (Nat.le_refl _) (Nat.le_refl _) rfl dL_law_1099
theorem t_L_law_1026 (C : CxS p l s m args meth c B0 X L9 xs9) {k23 : Nat → Nat → Nat → Int32 → aH → Nat → Nat → aP} (K23 : ∀ (l1 : Nat) (l2 : Nat) (l3 : Nat) (l4 : Int32) (h : aH) (c9 z9 : Nat), k23 l1 l2 l3 l4 h c9 z9 = some (r, h', mc, ms) → Ev p l e { frames := 20, cells := mc, slots := ms, locals := 766 } s m args below meth c D B0 X ws0 r h' mc ms 7 c9 z9 23 [some (.ref (aE + 5)), some (.ref l1), some (.ref l2), some (.ref l3), some (.int l4), none, none] [] h) {l1 : Nat} {l2 : Nat} {l3 : Nat} {l4 : Int32} {h : aH} {c9 z9 : Nat} (hs : s_L_law_1026 L9 xs9 k23 l1 l2 l3 l4 h c9 z9 = some (r, h', mc, ms)) : Ev p l e { frames := 20, cells := mc, slots := ms, locals := 766 } s m args below meth c D B0 X ws0 r h' mc ms 7 c9 z9 1026 [some (.ref (aE + 5)), some (.ref l1), some (.ref l2), some (.ref l3), some (.int l4), none, none] [] h := by
  unfold s_L_law_1026 at hs
  refine ev_aload_n C.1 (x := .ref l1) rfl trivial dL_law_1026 ?_
  refine ev_aload_n C.1 (x := .ref (aE + 5)) rfl trivial dL_law_1027 ?_
  refine ev_iload C.1 rfl dL_law_1028 ?_
  refine ev_iconst C.1 (v := 1) dL_law_1030 (by decide) ?_
  refine ev_iadd C.1 dL_law_1031 ?_
  obtain ⟨x1032, e1032, hs⟩ := aB hs
  refine ev_sX C.1 C.2 e1032 dL_law_1032 ?_
  obtain ⟨eo1033, hs⟩ := kO_at hs
  obtain ⟨x1033, h1033, e1033, hs⟩ := cI_at hs
  obtain ⟨c1033, z1033, hs⟩ := ck_at hs
  refine ev_callV C.1 (T_X11_form _ _ _ _ _ e1033) (ci := 11) rfl eo1033 wc_X11_form wm_L_122 wi_X11_form ws_X11_form wz_X11 hy_X11_form ⟨(Nat.le_of_ble_eq_true rfl), (Nat.le_of_ble_eq_true rfl)⟩ ⟨c1033, z1033⟩ (Nat.le_of_ble_eq_true rfl) rfl dL_law_1033 ?_
  refine ev_aload_n C.1 (x := .ref l2) rfl trivial dL_law_1036 ?_
  refine ev_aload_n C.1 (x := .ref (aE + 5)) rfl trivial dL_law_1037 ?_
  refine ev_iload C.1 rfl dL_law_1038 ?_
  refine ev_iconst C.1 (v := 1) dL_law_1040 (by decide) ?_
  refine ev_iadd C.1 dL_law_1041 ?_
  obtain ⟨x1042, e1042, hs⟩ := aB hs
  refine ev_sX C.1 C.2 e1042 dL_law_1042 ?_
  obtain ⟨eo1043, hs⟩ := kO_at hs
  obtain ⟨x1043, h1043, e1043, hs⟩ := cI_at hs
  obtain ⟨c1043, z1043, hs⟩ := ck_at hs
  refine ev_callV C.1 (T_X14_form _ _ _ _ _ e1043) (ci := 14) rfl eo1043 wc_X14_form wm_L_125 wi_X14_form ws_X14_form wz_X14 hy_X14_form ⟨(Nat.le_of_ble_eq_true rfl), (Nat.le_of_ble_eq_true rfl)⟩ ⟨c1043, z1043⟩ (Nat.le_of_ble_eq_true rfl) rfl dL_law_1043 ?_
  refine ev_icmp_eq C.1 (tgt := 1705) (by decide) dL_law_1046 (fun q1046 => ?_) (fun q1046 => ?_)
  · replace hs := (if_pos q1046).symm.trans hs
    exact (t_L_law_1705 C K23 hs)
  · replace hs := (if_neg q1046).symm.trans hs
    obtain ⟨hw9, hc9, hz9⟩ := wE_at hs
    refine Ev.widen hc9 hz9 ?_
    have hs := hw9
    refine ev_iconst C.1 (v := 0) dL_law_1049 (by decide) ?_
    obtain ⟨hz, rfl, rfl⟩ := rtZ_at hs
    exact ev_zret C.1 rfl hz rfl (Nat.le_refl _) (Nat.le_refl _) rfl dL_law_1050
theorem t_L_law_1018 (C : CxS p l s m args meth c B0 X L9 xs9) {k23 : Nat → Nat → Nat → Int32 → aH → Nat → Nat → aP} (K23 : ∀ (l1 : Nat) (l2 : Nat) (l3 : Nat) (l4 : Int32) (h : aH) (c9 z9 : Nat), k23 l1 l2 l3 l4 h c9 z9 = some (r, h', mc, ms) → Ev p l e { frames := 20, cells := mc, slots := ms, locals := 766 } s m args below meth c D B0 X ws0 r h' mc ms 7 c9 z9 23 [some (.ref (aE + 5)), some (.ref l1), some (.ref l2), some (.ref l3), some (.int l4), none, none] [] h) {l1 : Nat} {l2 : Nat} {l3 : Nat} {l4 : Int32} {s0 : Int32} {s1 : Nat} {s2 : Int32} {h : aH} {c9 z9 : Nat} (hs : s_L_law_1018 L9 xs9 k23 l1 l2 l3 l4 s0 s1 s2 h c9 z9 = some (r, h', mc, ms)) : Ev p l e { frames := 20, cells := mc, slots := ms, locals := 766 } s m args below meth c D B0 X ws0 r h' mc ms 7 c9 z9 1018 [some (.ref (aE + 5)), some (.ref l1), some (.ref l2), some (.ref l3), some (.int l4), none, none] [.int s0, .ref s1, .int s2] h := by
  unfold s_L_law_1018 at hs
  obtain ⟨eo1018, hs⟩ := kO_at hs
  obtain ⟨x1018, h1018, e1018, hs⟩ := cI_at hs
  obtain ⟨c1018, z1018, hs⟩ := ck_at hs
  refine ev_callV C.1 (T_X14_rank _ _ _ _ _ e1018) (ci := 14) rfl eo1018 wc_X14_rank wm_L_121 wi_X14_rank ws_X14_rank wz_X14 hy_X14_rank ⟨(Nat.le_of_ble_eq_true rfl), (Nat.le_of_ble_eq_true rfl)⟩ ⟨c1018, z1018⟩ (Nat.le_of_ble_eq_true rfl) rfl dL_law_1018 ?_
  refine ev_icmp_eq C.1 (tgt := 1705) (by decide) dL_law_1021 (fun q1021 => ?_) (fun q1021 => ?_)
  · replace hs := (if_pos q1021).symm.trans hs
    exact (t_L_law_1705 C K23 hs)
  · replace hs := (if_neg q1021).symm.trans hs
    obtain ⟨hw9, hc9, hz9⟩ := wE_at hs
    refine Ev.widen hc9 hz9 ?_
    have hs := hw9
    refine ev_iconst C.1 (v := 0) dL_law_1024 (by decide) ?_
    obtain ⟨hz, rfl, rfl⟩ := rtZ_at hs
    exact ev_zret C.1 rfl hz rfl (Nat.le_refl _) (Nat.le_refl _) rfl dL_law_1025
theorem t_L_law_1000 (C : CxS p l s m args meth c B0 X L9 xs9) {k23 : Nat → Nat → Nat → Int32 → aH → Nat → Nat → aP} (K23 : ∀ (l1 : Nat) (l2 : Nat) (l3 : Nat) (l4 : Int32) (h : aH) (c9 z9 : Nat), k23 l1 l2 l3 l4 h c9 z9 = some (r, h', mc, ms) → Ev p l e { frames := 20, cells := mc, slots := ms, locals := 766 } s m args below meth c D B0 X ws0 r h' mc ms 7 c9 z9 23 [some (.ref (aE + 5)), some (.ref l1), some (.ref l2), some (.ref l3), some (.int l4), none, none] [] h) {l1 : Nat} {l2 : Nat} {l3 : Nat} {l4 : Int32} {s0 : Int32} {s1 : Nat} {h : aH} {c9 z9 : Nat} (hs : s_L_law_1000 L9 xs9 k23 l1 l2 l3 l4 s0 s1 h c9 z9 = some (r, h', mc, ms)) : Ev p l e { frames := 20, cells := mc, slots := ms, locals := 766 } s m args below meth c D B0 X ws0 r h' mc ms 7 c9 z9 1000 [some (.ref (aE + 5)), some (.ref l1), some (.ref l2), some (.ref l3), some (.int l4), none, none] [.int s0, .ref s1] h := by
  unfold s_L_law_1000 at hs
  obtain ⟨eo1000, hs⟩ := kO_at hs
  obtain ⟨x1000, h1000, e1000, hs⟩ := cI_at hs
  obtain ⟨c1000, z1000, hs⟩ := ck_at hs
  refine ev_callV C.1 (T_X11_rank _ _ _ _ _ e1000) (ci := 11) rfl eo1000 wc_X11_rank wm_L_117 wi_X11_rank ws_X11_rank wz_X11 hy_X11_rank ⟨(Nat.le_of_ble_eq_true rfl), (Nat.le_of_ble_eq_true rfl)⟩ ⟨c1000, z1000⟩ (Nat.le_of_ble_eq_true rfl) rfl dL_law_1000 ?_
  refine ev_aload_n C.1 (x := .ref l2) rfl trivial dL_law_1003 ?_
  refine ev_aload_n C.1 (x := .ref (aE + 5)) rfl trivial dL_law_1004 ?_
  refine ev_iload C.1 rfl dL_law_1005 ?_
  refine ev_iconst C.1 (v := 1) dL_law_1007 (by decide) ?_
  refine ev_iadd C.1 dL_law_1008 ?_
  obtain ⟨x1009, e1009, hs⟩ := aB hs
  refine ev_sX C.1 C.2 e1009 dL_law_1009 ?_
  refine ev_if_eq C.1 (tgt := 1017) (by decide) dL_law_1010 (fun q1010 => ?_) (fun q1010 => ?_)
  · replace hs := (if_pos q1010).symm.trans hs
    refine ev_iconst C.1 (v := 0) dL_law_1017 (by decide) ?_
    exact (t_L_law_1018 C K23 hs)
  · replace hs := (if_neg q1010).symm.trans hs
    refine ev_iconst C.1 (v := 1) dL_law_1013 (by decide) ?_
    refine ev_goto C.1 (tgt := 1018) (by decide) dL_law_1014 ?_
    exact (t_L_law_1018 C K23 hs)
theorem t_L_law_985 (C : CxS p l s m args meth c B0 X L9 xs9) {k23 : Nat → Nat → Nat → Int32 → aH → Nat → Nat → aP} (K23 : ∀ (l1 : Nat) (l2 : Nat) (l3 : Nat) (l4 : Int32) (h : aH) (c9 z9 : Nat), k23 l1 l2 l3 l4 h c9 z9 = some (r, h', mc, ms) → Ev p l e { frames := 20, cells := mc, slots := ms, locals := 766 } s m args below meth c D B0 X ws0 r h' mc ms 7 c9 z9 23 [some (.ref (aE + 5)), some (.ref l1), some (.ref l2), some (.ref l3), some (.int l4), none, none] [] h) {l1 : Nat} {l2 : Nat} {l3 : Nat} {l4 : Int32} {h : aH} {c9 z9 : Nat} (hs : s_L_law_985 L9 xs9 k23 l1 l2 l3 l4 h c9 z9 = some (r, h', mc, ms)) : Ev p l e { frames := 20, cells := mc, slots := ms, locals := 766 } s m args below meth c D B0 X ws0 r h' mc ms 7 c9 z9 985 [some (.ref (aE + 5)), some (.ref l1), some (.ref l2), some (.ref l3), some (.int l4), none, none] [] h := by
  unfold s_L_law_985 at hs
  refine ev_aload_n C.1 (x := .ref l1) rfl trivial dL_law_985 ?_
  refine ev_aload_n C.1 (x := .ref (aE + 5)) rfl trivial dL_law_986 ?_
  refine ev_iload C.1 rfl dL_law_987 ?_
  refine ev_iconst C.1 (v := 1) dL_law_989 (by decide) ?_
  refine ev_iadd C.1 dL_law_990 ?_
  obtain ⟨x991, e991, hs⟩ := aB hs
  refine ev_sX C.1 C.2 e991 dL_law_991 ?_
  refine ev_if_eq C.1 (tgt := 999) (by decide) dL_law_992 (fun q992 => ?_) (fun q992 => ?_)
  · replace hs := (if_pos q992).symm.trans hs
    refine ev_iconst C.1 (v := 0) dL_law_999 (by decide) ?_
    exact (t_L_law_1000 C K23 hs)
  · replace hs := (if_neg q992).symm.trans hs
    refine ev_iconst C.1 (v := 1) dL_law_995 (by decide) ?_
    refine ev_goto C.1 (tgt := 1000) (by decide) dL_law_996 ?_
    exact (t_L_law_1000 C K23 hs)
theorem t_L_law_960 (C : CxS p l s m args meth c B0 X L9 xs9) {k23 : Nat → Nat → Nat → Int32 → aH → Nat → Nat → aP} (K23 : ∀ (l1 : Nat) (l2 : Nat) (l3 : Nat) (l4 : Int32) (h : aH) (c9 z9 : Nat), k23 l1 l2 l3 l4 h c9 z9 = some (r, h', mc, ms) → Ev p l e { frames := 20, cells := mc, slots := ms, locals := 766 } s m args below meth c D B0 X ws0 r h' mc ms 7 c9 z9 23 [some (.ref (aE + 5)), some (.ref l1), some (.ref l2), some (.ref l3), some (.int l4), none, none] [] h) {l1 : Nat} {l2 : Nat} {l3 : Nat} {l4 : Int32} {h : aH} {c9 z9 : Nat} (hs : s_L_law_960 L9 xs9 k23 l1 l2 l3 l4 h c9 z9 = some (r, h', mc, ms)) : Ev p l e { frames := 20, cells := mc, slots := ms, locals := 766 } s m args below meth c D B0 X ws0 r h' mc ms 7 c9 z9 960 [some (.ref (aE + 5)), some (.ref l1), some (.ref l2), some (.ref l3), some (.int l4), none, none] [] h := by
  unfold s_L_law_960 at hs
  refine ev_aload_n C.1 (x := .ref l1) rfl trivial dL_law_960 ?_
  refine ev_aload_n C.1 (x := .ref (aE + 5)) rfl trivial dL_law_961 ?_
  refine ev_iload C.1 rfl dL_law_962 ?_
  refine ev_iconst C.1 (v := 1) dL_law_964 (by decide) ?_
  refine ev_iadd C.1 dL_law_965 ?_
  obtain ⟨x966, e966, hs⟩ := aB hs
  refine ev_sX C.1 C.2 e966 dL_law_966 ?_
  obtain ⟨eo967, hs⟩ := kO_at hs
  obtain ⟨x967, h967, n967, y967, e967, hs⟩ := dI_at hs
  obtain ⟨c967, z967, hs⟩ := ck_at hs
  refine ev_callV C.1 (T_X11_margin _ _ _ _ _ _ _ e967) (ci := 11) rfl eo967 wc_X11_margin wm_L_113 wi_X11_margin ws_X11_margin wz_X11 hy_X11_margin ⟨(Nat.le_of_ble_eq_true rfl), (Nat.le_of_ble_eq_true rfl)⟩ ⟨c967, z967⟩ (Nat.le_of_ble_eq_true rfl) rfl dL_law_967 ?_
  refine ev_aload_n C.1 (x := .ref l2) rfl trivial dL_law_970 ?_
  refine ev_aload_n C.1 (x := .ref (aE + 5)) rfl trivial dL_law_971 ?_
  refine ev_iload C.1 rfl dL_law_972 ?_
  refine ev_iconst C.1 (v := 1) dL_law_974 (by decide) ?_
  refine ev_iadd C.1 dL_law_975 ?_
  obtain ⟨x976, e976, hs⟩ := aB hs
  refine ev_sX C.1 C.2 e976 dL_law_976 ?_
  obtain ⟨eo977, hs⟩ := kO_at hs
  obtain ⟨x977, h977, e977, hs⟩ := cI_at hs
  obtain ⟨c977, z977, hs⟩ := ck_at hs
  refine ev_callV C.1 (T_X14_margin _ _ _ _ _ e977) (ci := 14) rfl eo977 wc_X14_margin wm_L_116 wi_X14_margin ws_X14_margin wz_X14 hy_X14_margin ⟨(Nat.le_of_ble_eq_true rfl), (Nat.le_of_ble_eq_true rfl)⟩ ⟨c977, z977⟩ (Nat.le_of_ble_eq_true rfl) rfl dL_law_977 ?_
  refine ev_icmp_eq C.1 (tgt := 1705) (by decide) dL_law_980 (fun q980 => ?_) (fun q980 => ?_)
  · replace hs := (if_pos q980).symm.trans hs
    exact (t_L_law_1705 C K23 hs)
  · replace hs := (if_neg q980).symm.trans hs
    obtain ⟨hw9, hc9, hz9⟩ := wE_at hs
    refine Ev.widen hc9 hz9 ?_
    have hs := hw9
    refine ev_iconst C.1 (v := 0) dL_law_983 (by decide) ?_
    obtain ⟨hz, rfl, rfl⟩ := rtZ_at hs
    exact ev_zret C.1 rfl hz rfl (Nat.le_refl _) (Nat.le_refl _) rfl dL_law_984
theorem t_L_law_880 (C : CxS p l s m args meth c B0 X L9 xs9) {k23 : Nat → Nat → Nat → Int32 → aH → Nat → Nat → aP} (K23 : ∀ (l1 : Nat) (l2 : Nat) (l3 : Nat) (l4 : Int32) (h : aH) (c9 z9 : Nat), k23 l1 l2 l3 l4 h c9 z9 = some (r, h', mc, ms) → Ev p l e { frames := 20, cells := mc, slots := ms, locals := 766 } s m args below meth c D B0 X ws0 r h' mc ms 7 c9 z9 23 [some (.ref (aE + 5)), some (.ref l1), some (.ref l2), some (.ref l3), some (.int l4), none, none] [] h) {l1 : Nat} {l2 : Nat} {l3 : Nat} {l4 : Int32} {h : aH} {c9 z9 : Nat} (hs : s_L_law_880 L9 xs9 k23 l1 l2 l3 l4 h c9 z9 = some (r, h', mc, ms)) : Ev p l e { frames := 20, cells := mc, slots := ms, locals := 766 } s m args below meth c D B0 X ws0 r h' mc ms 7 c9 z9 880 [some (.ref (aE + 5)), some (.ref l1), some (.ref l2), some (.ref l3), some (.int l4), none, none] [] h := by
  unfold s_L_law_880 at hs
  refine ev_aload_n C.1 (x := .ref l1) rfl trivial dL_law_880 ?_
  refine ev_aload_n C.1 (x := .ref (aE + 5)) rfl trivial dL_law_881 ?_
  refine ev_iload C.1 rfl dL_law_882 ?_
  refine ev_iconst C.1 (v := 1) dL_law_884 (by decide) ?_
  refine ev_iadd C.1 dL_law_885 ?_
  obtain ⟨x886, e886, hs⟩ := aB hs
  refine ev_sX C.1 C.2 e886 dL_law_886 ?_
  refine ev_aload_n C.1 (x := .ref (aE + 5)) rfl trivial dL_law_887 ?_
  refine ev_iload C.1 rfl dL_law_888 ?_
  refine ev_iconst C.1 (v := 2) dL_law_890 (by decide) ?_
  refine ev_iadd C.1 dL_law_891 ?_
  obtain ⟨x892, e892, hs⟩ := aB hs
  refine ev_sX C.1 C.2 e892 dL_law_892 ?_
  refine ev_aload_n C.1 (x := .ref (aE + 5)) rfl trivial dL_law_893 ?_
  refine ev_iload C.1 rfl dL_law_894 ?_
  refine ev_iconst C.1 (v := 3) dL_law_896 (by decide) ?_
  refine ev_iadd C.1 dL_law_897 ?_
  obtain ⟨x898, e898, hs⟩ := aB hs
  refine ev_sX C.1 C.2 e898 dL_law_898 ?_
  refine ev_aload_n C.1 (x := .ref l3) rfl trivial dL_law_899 ?_
  obtain ⟨x900, h900, n900, y900, e900, hs⟩ := dI_at hs
  obtain ⟨c900, z900, hs⟩ := ck_at hs
  refine ev_callSW C.1 (T_L_worst _ _ _ _ _ _ _ _ _ _ e900) wc_L_worst wm_L_104 wt_L_worst wz_L hy_L_worst ⟨(Nat.le_of_ble_eq_true rfl), (Nat.le_of_ble_eq_true rfl)⟩ ⟨c900, z900⟩ (Nat.le_of_ble_eq_true rfl) rfl dL_law_900 ?_
  refine ev_istore C.1 (by decide) dL_law_903 ?_
  refine ev_aload_n C.1 (x := .ref l2) rfl trivial dL_law_905 ?_
  refine ev_aload_n C.1 (x := .ref (aE + 5)) rfl trivial dL_law_906 ?_
  refine ev_iload C.1 rfl dL_law_907 ?_
  refine ev_iconst C.1 (v := 1) dL_law_909 (by decide) ?_
  refine ev_iadd C.1 dL_law_910 ?_
  obtain ⟨x911, e911, hs⟩ := aB hs
  refine ev_sX C.1 C.2 e911 dL_law_911 ?_
  refine ev_aload_n C.1 (x := .ref (aE + 5)) rfl trivial dL_law_912 ?_
  refine ev_iload C.1 rfl dL_law_913 ?_
  refine ev_iconst C.1 (v := 2) dL_law_915 (by decide) ?_
  refine ev_iadd C.1 dL_law_916 ?_
  obtain ⟨x917, e917, hs⟩ := aB hs
  refine ev_sX C.1 C.2 e917 dL_law_917 ?_
  refine ev_aload_n C.1 (x := .ref (aE + 5)) rfl trivial dL_law_918 ?_
  refine ev_iload C.1 rfl dL_law_919 ?_
  refine ev_iconst C.1 (v := 3) dL_law_921 (by decide) ?_
  refine ev_iadd C.1 dL_law_922 ?_
  obtain ⟨x923, e923, hs⟩ := aB hs
  refine ev_sX C.1 C.2 e923 dL_law_923 ?_
  obtain ⟨eo924, hs⟩ := kO_at hs
  obtain ⟨x924, h924, e924, hs⟩ := cI_at hs
  obtain ⟨c924, z924, hs⟩ := ck_at hs
  refine ev_callV C.1 (T_X14_worst _ _ _ _ _ _ _ e924) (ci := 14) rfl eo924 wc_X14_worst wm_L_109 wi_X14_worst ws_X14_worst wz_X14 hy_X14_worst ⟨(Nat.le_of_ble_eq_true rfl), (Nat.le_of_ble_eq_true rfl)⟩ ⟨c924, z924⟩ (Nat.le_of_ble_eq_true rfl) rfl dL_law_924 ?_
  refine ev_istore C.1 (by decide) dL_law_927 ?_
  refine ev_aload_n C.1 (x := .ref l2) rfl trivial dL_law_929 ?_
  obtain ⟨eo930, hs⟩ := kO_at hs
  obtain ⟨x930, h930, e930, hs⟩ := cI_at hs
  obtain ⟨c930, z930, hs⟩ := ck_at hs
  refine ev_callV C.1 (T_X14_thrown _ _ _ _ e930) (ci := 14) rfl eo930 wc_X14_thrown wm_L_110 wi_X14_thrown ws_X14_thrown wz_X14 hy_X14_thrown ⟨(Nat.le_of_ble_eq_true rfl), (Nat.le_of_ble_eq_true rfl)⟩ ⟨c930, z930⟩ (Nat.le_of_ble_eq_true rfl) rfl dL_law_930 ?_
  refine ev_iload C.1 rfl dL_law_933 ?_
  refine ev_icmp_eq C.1 (tgt := 940) (by decide) dL_law_935 (fun q935 => ?_) (fun q935 => ?_)
  · replace hs := (if_pos q935).symm.trans hs
    refine ev_iload C.1 rfl dL_law_940 ?_
    refine ev_if_ne C.1 (tgt := 957) (by decide) dL_law_942 (fun q942 => ?_) (fun q942 => ?_)
    · replace hs := (if_neg q942).symm.trans hs
      refine ev_goto C.1 (tgt := 1705) (by decide) dL_law_957 ?_
      exact Ev.keep [true, true, true, true, true, false, false] (t_L_law_1705 C K23 hs)
    · replace hs := (if_pos q942).symm.trans hs
      refine ev_aload_n C.1 (x := .ref l3) rfl trivial dL_law_945 ?_
      refine ev_iconst C.1 (v := 0) dL_law_946 (by decide) ?_
      obtain ⟨x947, e947, hs⟩ := aB hs
      refine ev_lald C.1 e947 dL_law_947 ?_
      refine ev_iload C.1 rfl dL_law_948 ?_
      refine ev_i2l C.1 dL_law_950 ?_
      refine ev_lcmp C.1 dL_law_951 ?_
      refine ev_if_eq C.1 (tgt := 957) (by decide) dL_law_952 (fun q952 => ?_) (fun q952 => ?_)
      · replace hs := (if_pos q952).symm.trans hs
        refine ev_goto C.1 (tgt := 1705) (by decide) dL_law_957 ?_
        exact Ev.keep [true, true, true, true, true, false, false] (t_L_law_1705 C K23 hs)
      · replace hs := (if_neg q952).symm.trans hs
        obtain ⟨hw9, hc9, hz9⟩ := wE_at hs
        refine Ev.widen hc9 hz9 ?_
        have hs := hw9
        refine ev_iconst C.1 (v := 0) dL_law_955 (by decide) ?_
        obtain ⟨hz, rfl, rfl⟩ := rtZ_at hs
        exact ev_zret C.1 rfl hz rfl (Nat.le_refl _) (Nat.le_refl _) rfl dL_law_956
  · replace hs := (if_neg q935).symm.trans hs
    obtain ⟨hw9, hc9, hz9⟩ := wE_at hs
    refine Ev.widen hc9 hz9 ?_
    have hs := hw9
    refine ev_iconst C.1 (v := 0) dL_law_938 (by decide) ?_
    obtain ⟨hz, rfl, rfl⟩ := rtZ_at hs
    exact ev_zret C.1 rfl hz rfl (Nat.le_refl _) (Nat.le_refl _) rfl dL_law_939
theorem t_L_law_843 (C : CxS p l s m args meth c B0 X L9 xs9) {k23 : Nat → Nat → Nat → Int32 → aH → Nat → Nat → aP} (K23 : ∀ (l1 : Nat) (l2 : Nat) (l3 : Nat) (l4 : Int32) (h : aH) (c9 z9 : Nat), k23 l1 l2 l3 l4 h c9 z9 = some (r, h', mc, ms) → Ev p l e { frames := 20, cells := mc, slots := ms, locals := 766 } s m args below meth c D B0 X ws0 r h' mc ms 7 c9 z9 23 [some (.ref (aE + 5)), some (.ref l1), some (.ref l2), some (.ref l3), some (.int l4), none, none] [] h) {l1 : Nat} {l2 : Nat} {l3 : Nat} {l4 : Int32} {h : aH} {c9 z9 : Nat} (hs : s_L_law_843 L9 xs9 k23 l1 l2 l3 l4 h c9 z9 = some (r, h', mc, ms)) : Ev p l e { frames := 20, cells := mc, slots := ms, locals := 766 } s m args below meth c D B0 X ws0 r h' mc ms 7 c9 z9 843 [some (.ref (aE + 5)), some (.ref l1), some (.ref l2), some (.ref l3), some (.int l4), none, none] [] h := by
  unfold s_L_law_843 at hs
  refine ev_aload_n C.1 (x := .ref l1) rfl trivial dL_law_843 ?_
  refine ev_aload_n C.1 (x := .ref (aE + 5)) rfl trivial dL_law_844 ?_
  refine ev_iload C.1 rfl dL_law_845 ?_
  refine ev_iconst C.1 (v := 1) dL_law_847 (by decide) ?_
  refine ev_iadd C.1 dL_law_848 ?_
  obtain ⟨x849, e849, hs⟩ := aB hs
  refine ev_sX C.1 C.2 e849 dL_law_849 ?_
  refine ev_aload_n C.1 (x := .ref (aE + 5)) rfl trivial dL_law_850 ?_
  refine ev_iload C.1 rfl dL_law_851 ?_
  refine ev_iconst C.1 (v := 2) dL_law_853 (by decide) ?_
  refine ev_iadd C.1 dL_law_854 ?_
  obtain ⟨x855, e855, hs⟩ := aB hs
  refine ev_sX C.1 C.2 e855 dL_law_855 ?_
  obtain ⟨eo856, hs⟩ := kO_at hs
  obtain ⟨x856, h856, n856, y856, e856, hs⟩ := dI_at hs
  obtain ⟨c856, z856, hs⟩ := ck_at hs
  refine ev_callV C.1 (T_X11_bestLaw _ _ _ _ _ _ _ _ e856) (ci := 11) rfl eo856 wc_X11_bestLaw wm_L_100 wi_X11_bestLaw ws_X11_bestLaw wz_X11 hy_X11_bestLaw ⟨(Nat.le_of_ble_eq_true rfl), (Nat.le_of_ble_eq_true rfl)⟩ ⟨c856, z856⟩ (Nat.le_of_ble_eq_true rfl) rfl dL_law_856 ?_
  refine ev_aload_n C.1 (x := .ref l2) rfl trivial dL_law_859 ?_
  refine ev_aload_n C.1 (x := .ref (aE + 5)) rfl trivial dL_law_860 ?_
  refine ev_iload C.1 rfl dL_law_861 ?_
  refine ev_iconst C.1 (v := 1) dL_law_863 (by decide) ?_
  refine ev_iadd C.1 dL_law_864 ?_
  obtain ⟨x865, e865, hs⟩ := aB hs
  refine ev_sX C.1 C.2 e865 dL_law_865 ?_
  refine ev_aload_n C.1 (x := .ref (aE + 5)) rfl trivial dL_law_866 ?_
  refine ev_iload C.1 rfl dL_law_867 ?_
  refine ev_iconst C.1 (v := 2) dL_law_869 (by decide) ?_
  refine ev_iadd C.1 dL_law_870 ?_
  obtain ⟨x871, e871, hs⟩ := aB hs
  refine ev_sX C.1 C.2 e871 dL_law_871 ?_
  obtain ⟨eo872, hs⟩ := kO_at hs
  obtain ⟨x872, h872, e872, hs⟩ := cI_at hs
  obtain ⟨c872, z872, hs⟩ := ck_at hs
  refine ev_callV C.1 (T_X14_bestLaw _ _ _ _ _ _ e872) (ci := 14) rfl eo872 wc_X14_bestLaw wm_L_103 wi_X14_bestLaw ws_X14_bestLaw wz_X14 hy_X14_bestLaw ⟨(Nat.le_of_ble_eq_true rfl), (Nat.le_of_ble_eq_true rfl)⟩ ⟨c872, z872⟩ (Nat.le_of_ble_eq_true rfl) rfl dL_law_872 ?_
  refine ev_icmp_eq C.1 (tgt := 1705) (by decide) dL_law_875 (fun q875 => ?_) (fun q875 => ?_)
  · replace hs := (if_pos q875).symm.trans hs
    exact (t_L_law_1705 C K23 hs)
  · replace hs := (if_neg q875).symm.trans hs
    obtain ⟨hw9, hc9, hz9⟩ := wE_at hs
    refine Ev.widen hc9 hz9 ?_
    have hs := hw9
    refine ev_iconst C.1 (v := 0) dL_law_878 (by decide) ?_
    obtain ⟨hz, rfl, rfl⟩ := rtZ_at hs
    exact ev_zret C.1 rfl hz rfl (Nat.le_refl _) (Nat.le_refl _) rfl dL_law_879
theorem t_L_law_806 (C : CxS p l s m args meth c B0 X L9 xs9) {k23 : Nat → Nat → Nat → Int32 → aH → Nat → Nat → aP} (K23 : ∀ (l1 : Nat) (l2 : Nat) (l3 : Nat) (l4 : Int32) (h : aH) (c9 z9 : Nat), k23 l1 l2 l3 l4 h c9 z9 = some (r, h', mc, ms) → Ev p l e { frames := 20, cells := mc, slots := ms, locals := 766 } s m args below meth c D B0 X ws0 r h' mc ms 7 c9 z9 23 [some (.ref (aE + 5)), some (.ref l1), some (.ref l2), some (.ref l3), some (.int l4), none, none] [] h) {l1 : Nat} {l2 : Nat} {l3 : Nat} {l4 : Int32} {h : aH} {c9 z9 : Nat} (hs : s_L_law_806 L9 xs9 k23 l1 l2 l3 l4 h c9 z9 = some (r, h', mc, ms)) : Ev p l e { frames := 20, cells := mc, slots := ms, locals := 766 } s m args below meth c D B0 X ws0 r h' mc ms 7 c9 z9 806 [some (.ref (aE + 5)), some (.ref l1), some (.ref l2), some (.ref l3), some (.int l4), none, none] [] h := by
  unfold s_L_law_806 at hs
  refine ev_aload_n C.1 (x := .ref l1) rfl trivial dL_law_806 ?_
  refine ev_aload_n C.1 (x := .ref (aE + 5)) rfl trivial dL_law_807 ?_
  refine ev_iload C.1 rfl dL_law_808 ?_
  refine ev_iconst C.1 (v := 1) dL_law_810 (by decide) ?_
  refine ev_iadd C.1 dL_law_811 ?_
  obtain ⟨x812, e812, hs⟩ := aB hs
  refine ev_sX C.1 C.2 e812 dL_law_812 ?_
  refine ev_aload_n C.1 (x := .ref (aE + 5)) rfl trivial dL_law_813 ?_
  refine ev_iload C.1 rfl dL_law_814 ?_
  refine ev_iconst C.1 (v := 2) dL_law_816 (by decide) ?_
  refine ev_iadd C.1 dL_law_817 ?_
  obtain ⟨x818, e818, hs⟩ := aB hs
  refine ev_sX C.1 C.2 e818 dL_law_818 ?_
  obtain ⟨eo819, hs⟩ := kO_at hs
  obtain ⟨x819, h819, n819, y819, e819, hs⟩ := dI_at hs
  obtain ⟨c819, z819, hs⟩ := ck_at hs
  refine ev_callV C.1 (T_X11_best _ _ _ _ _ _ _ _ e819) (ci := 11) rfl eo819 wc_X11_best wm_L_96 wi_X11_best ws_X11_best wz_X11 hy_X11_best ⟨(Nat.le_of_ble_eq_true rfl), (Nat.le_of_ble_eq_true rfl)⟩ ⟨c819, z819⟩ (Nat.le_of_ble_eq_true rfl) rfl dL_law_819 ?_
  refine ev_aload_n C.1 (x := .ref l2) rfl trivial dL_law_822 ?_
  refine ev_aload_n C.1 (x := .ref (aE + 5)) rfl trivial dL_law_823 ?_
  refine ev_iload C.1 rfl dL_law_824 ?_
  refine ev_iconst C.1 (v := 1) dL_law_826 (by decide) ?_
  refine ev_iadd C.1 dL_law_827 ?_
  obtain ⟨x828, e828, hs⟩ := aB hs
  refine ev_sX C.1 C.2 e828 dL_law_828 ?_
  refine ev_aload_n C.1 (x := .ref (aE + 5)) rfl trivial dL_law_829 ?_
  refine ev_iload C.1 rfl dL_law_830 ?_
  refine ev_iconst C.1 (v := 2) dL_law_832 (by decide) ?_
  refine ev_iadd C.1 dL_law_833 ?_
  obtain ⟨x834, e834, hs⟩ := aB hs
  refine ev_sX C.1 C.2 e834 dL_law_834 ?_
  obtain ⟨eo835, hs⟩ := kO_at hs
  obtain ⟨x835, h835, e835, hs⟩ := cI_at hs
  obtain ⟨c835, z835, hs⟩ := ck_at hs
  refine ev_callV C.1 (T_X14_best _ _ _ _ _ _ e835) (ci := 14) rfl eo835 wc_X14_best wm_L_99 wi_X14_best ws_X14_best wz_X14 hy_X14_best ⟨(Nat.le_of_ble_eq_true rfl), (Nat.le_of_ble_eq_true rfl)⟩ ⟨c835, z835⟩ (Nat.le_of_ble_eq_true rfl) rfl dL_law_835 ?_
  refine ev_icmp_eq C.1 (tgt := 1705) (by decide) dL_law_838 (fun q838 => ?_) (fun q838 => ?_)
  · replace hs := (if_pos q838).symm.trans hs
    exact (t_L_law_1705 C K23 hs)
  · replace hs := (if_neg q838).symm.trans hs
    obtain ⟨hw9, hc9, hz9⟩ := wE_at hs
    refine Ev.widen hc9 hz9 ?_
    have hs := hw9
    refine ev_iconst C.1 (v := 0) dL_law_841 (by decide) ?_
    obtain ⟨hz, rfl, rfl⟩ := rtZ_at hs
    exact ev_zret C.1 rfl hz rfl (Nat.le_refl _) (Nat.le_refl _) rfl dL_law_842
theorem t_L_law_781 (C : CxS p l s m args meth c B0 X L9 xs9) {k23 : Nat → Nat → Nat → Int32 → aH → Nat → Nat → aP} (K23 : ∀ (l1 : Nat) (l2 : Nat) (l3 : Nat) (l4 : Int32) (h : aH) (c9 z9 : Nat), k23 l1 l2 l3 l4 h c9 z9 = some (r, h', mc, ms) → Ev p l e { frames := 20, cells := mc, slots := ms, locals := 766 } s m args below meth c D B0 X ws0 r h' mc ms 7 c9 z9 23 [some (.ref (aE + 5)), some (.ref l1), some (.ref l2), some (.ref l3), some (.int l4), none, none] [] h) {l1 : Nat} {l2 : Nat} {l3 : Nat} {l4 : Int32} {h : aH} {c9 z9 : Nat} (hs : s_L_law_781 L9 xs9 k23 l1 l2 l3 l4 h c9 z9 = some (r, h', mc, ms)) : Ev p l e { frames := 20, cells := mc, slots := ms, locals := 766 } s m args below meth c D B0 X ws0 r h' mc ms 7 c9 z9 781 [some (.ref (aE + 5)), some (.ref l1), some (.ref l2), some (.ref l3), some (.int l4), none, none] [] h := by
  unfold s_L_law_781 at hs
  refine ev_aload_n C.1 (x := .ref l1) rfl trivial dL_law_781 ?_
  refine ev_aload_n C.1 (x := .ref (aE + 5)) rfl trivial dL_law_782 ?_
  refine ev_iload C.1 rfl dL_law_783 ?_
  refine ev_iconst C.1 (v := 1) dL_law_785 (by decide) ?_
  refine ev_iadd C.1 dL_law_786 ?_
  obtain ⟨x787, e787, hs⟩ := aB hs
  refine ev_sX C.1 C.2 e787 dL_law_787 ?_
  obtain ⟨eo788, hs⟩ := kO_at hs
  obtain ⟨x788, h788, n788, y788, e788, hs⟩ := dI_at hs
  obtain ⟨c788, z788, hs⟩ := ck_at hs
  refine ev_callV C.1 (T_X11_law _ _ _ _ _ _ _ e788) (ci := 11) rfl eo788 wc_X11_law wm_L_92 wi_X11_law ws_X11_law wz_X11 hy_X11_law ⟨(Nat.le_of_ble_eq_true rfl), (Nat.le_of_ble_eq_true rfl)⟩ ⟨c788, z788⟩ (Nat.le_of_ble_eq_true rfl) rfl dL_law_788 ?_
  refine ev_aload_n C.1 (x := .ref l2) rfl trivial dL_law_791 ?_
  refine ev_aload_n C.1 (x := .ref (aE + 5)) rfl trivial dL_law_792 ?_
  refine ev_iload C.1 rfl dL_law_793 ?_
  refine ev_iconst C.1 (v := 1) dL_law_795 (by decide) ?_
  refine ev_iadd C.1 dL_law_796 ?_
  obtain ⟨x797, e797, hs⟩ := aB hs
  refine ev_sX C.1 C.2 e797 dL_law_797 ?_
  obtain ⟨eo798, hs⟩ := kO_at hs
  obtain ⟨x798, h798, e798, hs⟩ := cI_at hs
  obtain ⟨c798, z798, hs⟩ := ck_at hs
  refine ev_callV C.1 (T_X14_law _ _ _ _ _ e798) (ci := 14) rfl eo798 wc_X14_law wm_L_95 wi_X14_law ws_X14_law wz_X14 hy_X14_law ⟨(Nat.le_of_ble_eq_true rfl), (Nat.le_of_ble_eq_true rfl)⟩ ⟨c798, z798⟩ (Nat.le_of_ble_eq_true rfl) rfl dL_law_798 ?_
  refine ev_icmp_eq C.1 (tgt := 1705) (by decide) dL_law_801 (fun q801 => ?_) (fun q801 => ?_)
  · replace hs := (if_pos q801).symm.trans hs
    exact (t_L_law_1705 C K23 hs)
  · replace hs := (if_neg q801).symm.trans hs
    obtain ⟨hw9, hc9, hz9⟩ := wE_at hs
    refine Ev.widen hc9 hz9 ?_
    have hs := hw9
    refine ev_iconst C.1 (v := 0) dL_law_804 (by decide) ?_
    obtain ⟨hz, rfl, rfl⟩ := rtZ_at hs
    exact ev_zret C.1 rfl hz rfl (Nat.le_refl _) (Nat.le_refl _) rfl dL_law_805
theorem t_L_law_756 (C : CxS p l s m args meth c B0 X L9 xs9) {k23 : Nat → Nat → Nat → Int32 → aH → Nat → Nat → aP} (K23 : ∀ (l1 : Nat) (l2 : Nat) (l3 : Nat) (l4 : Int32) (h : aH) (c9 z9 : Nat), k23 l1 l2 l3 l4 h c9 z9 = some (r, h', mc, ms) → Ev p l e { frames := 20, cells := mc, slots := ms, locals := 766 } s m args below meth c D B0 X ws0 r h' mc ms 7 c9 z9 23 [some (.ref (aE + 5)), some (.ref l1), some (.ref l2), some (.ref l3), some (.int l4), none, none] [] h) {l1 : Nat} {l2 : Nat} {l3 : Nat} {l4 : Int32} {h : aH} {c9 z9 : Nat} (hs : s_L_law_756 L9 xs9 k23 l1 l2 l3 l4 h c9 z9 = some (r, h', mc, ms)) : Ev p l e { frames := 20, cells := mc, slots := ms, locals := 766 } s m args below meth c D B0 X ws0 r h' mc ms 7 c9 z9 756 [some (.ref (aE + 5)), some (.ref l1), some (.ref l2), some (.ref l3), some (.int l4), none, none] [] h := by
  unfold s_L_law_756 at hs
  refine ev_aload_n C.1 (x := .ref l1) rfl trivial dL_law_756 ?_
  refine ev_aload_n C.1 (x := .ref (aE + 5)) rfl trivial dL_law_757 ?_
  refine ev_iload C.1 rfl dL_law_758 ?_
  refine ev_iconst C.1 (v := 1) dL_law_760 (by decide) ?_
  refine ev_iadd C.1 dL_law_761 ?_
  obtain ⟨x762, e762, hs⟩ := aB hs
  refine ev_sX C.1 C.2 e762 dL_law_762 ?_
  obtain ⟨eo763, hs⟩ := kO_at hs
  obtain ⟨x763, h763, n763, y763, e763, hs⟩ := dI_at hs
  obtain ⟨c763, z763, hs⟩ := ck_at hs
  refine ev_callV C.1 (T_X11_ticks _ _ _ _ _ _ _ e763) (ci := 11) rfl eo763 wc_X11_ticks wm_L_88 wi_X11_ticks ws_X11_ticks wz_X11 hy_X11_ticks ⟨(Nat.le_of_ble_eq_true rfl), (Nat.le_of_ble_eq_true rfl)⟩ ⟨c763, z763⟩ (Nat.le_of_ble_eq_true rfl) rfl dL_law_763 ?_
  refine ev_aload_n C.1 (x := .ref l2) rfl trivial dL_law_766 ?_
  refine ev_aload_n C.1 (x := .ref (aE + 5)) rfl trivial dL_law_767 ?_
  refine ev_iload C.1 rfl dL_law_768 ?_
  refine ev_iconst C.1 (v := 1) dL_law_770 (by decide) ?_
  refine ev_iadd C.1 dL_law_771 ?_
  obtain ⟨x772, e772, hs⟩ := aB hs
  refine ev_sX C.1 C.2 e772 dL_law_772 ?_
  obtain ⟨eo773, hs⟩ := kO_at hs
  obtain ⟨x773, h773, e773, hs⟩ := cI_at hs
  obtain ⟨c773, z773, hs⟩ := ck_at hs
  refine ev_callV C.1 (T_X14_ticks _ _ _ _ _ e773) (ci := 14) rfl eo773 wc_X14_ticks wm_L_91 wi_X14_ticks ws_X14_ticks wz_X14 hy_X14_ticks ⟨(Nat.le_of_ble_eq_true rfl), (Nat.le_of_ble_eq_true rfl)⟩ ⟨c773, z773⟩ (Nat.le_of_ble_eq_true rfl) rfl dL_law_773 ?_
  refine ev_icmp_eq C.1 (tgt := 1705) (by decide) dL_law_776 (fun q776 => ?_) (fun q776 => ?_)
  · replace hs := (if_pos q776).symm.trans hs
    exact (t_L_law_1705 C K23 hs)
  · replace hs := (if_neg q776).symm.trans hs
    obtain ⟨hw9, hc9, hz9⟩ := wE_at hs
    refine Ev.widen hc9 hz9 ?_
    have hs := hw9
    refine ev_iconst C.1 (v := 0) dL_law_779 (by decide) ?_
    obtain ⟨hz, rfl, rfl⟩ := rtZ_at hs
    exact ev_zret C.1 rfl hz rfl (Nat.le_refl _) (Nat.le_refl _) rfl dL_law_780
theorem t_L_law_731 (C : CxS p l s m args meth c B0 X L9 xs9) {k23 : Nat → Nat → Nat → Int32 → aH → Nat → Nat → aP} (K23 : ∀ (l1 : Nat) (l2 : Nat) (l3 : Nat) (l4 : Int32) (h : aH) (c9 z9 : Nat), k23 l1 l2 l3 l4 h c9 z9 = some (r, h', mc, ms) → Ev p l e { frames := 20, cells := mc, slots := ms, locals := 766 } s m args below meth c D B0 X ws0 r h' mc ms 7 c9 z9 23 [some (.ref (aE + 5)), some (.ref l1), some (.ref l2), some (.ref l3), some (.int l4), none, none] [] h) {l1 : Nat} {l2 : Nat} {l3 : Nat} {l4 : Int32} {h : aH} {c9 z9 : Nat} (hs : s_L_law_731 L9 xs9 k23 l1 l2 l3 l4 h c9 z9 = some (r, h', mc, ms)) : Ev p l e { frames := 20, cells := mc, slots := ms, locals := 766 } s m args below meth c D B0 X ws0 r h' mc ms 7 c9 z9 731 [some (.ref (aE + 5)), some (.ref l1), some (.ref l2), some (.ref l3), some (.int l4), none, none] [] h := by
  unfold s_L_law_731 at hs
  refine ev_aload_n C.1 (x := .ref l1) rfl trivial dL_law_731 ?_
  refine ev_aload_n C.1 (x := .ref (aE + 5)) rfl trivial dL_law_732 ?_
  refine ev_iload C.1 rfl dL_law_733 ?_
  refine ev_iconst C.1 (v := 1) dL_law_735 (by decide) ?_
  refine ev_iadd C.1 dL_law_736 ?_
  obtain ⟨x737, e737, hs⟩ := aB hs
  refine ev_sX C.1 C.2 e737 dL_law_737 ?_
  obtain ⟨eo738, hs⟩ := kO_at hs
  obtain ⟨x738, h738, n738, y738, e738, hs⟩ := dI_at hs
  obtain ⟨c738, z738, hs⟩ := ck_at hs
  refine ev_callV C.1 (T_X11_allowed _ _ _ _ _ _ _ e738) (ci := 11) rfl eo738 wc_X11_allowed wm_L_84 wi_X11_allowed ws_X11_allowed wz_X11 hy_X11_allowed ⟨(Nat.le_of_ble_eq_true rfl), (Nat.le_of_ble_eq_true rfl)⟩ ⟨c738, z738⟩ (Nat.le_of_ble_eq_true rfl) rfl dL_law_738 ?_
  refine ev_aload_n C.1 (x := .ref l2) rfl trivial dL_law_741 ?_
  refine ev_aload_n C.1 (x := .ref (aE + 5)) rfl trivial dL_law_742 ?_
  refine ev_iload C.1 rfl dL_law_743 ?_
  refine ev_iconst C.1 (v := 1) dL_law_745 (by decide) ?_
  refine ev_iadd C.1 dL_law_746 ?_
  obtain ⟨x747, e747, hs⟩ := aB hs
  refine ev_sX C.1 C.2 e747 dL_law_747 ?_
  obtain ⟨eo748, hs⟩ := kO_at hs
  obtain ⟨x748, h748, e748, hs⟩ := cI_at hs
  obtain ⟨c748, z748, hs⟩ := ck_at hs
  refine ev_callV C.1 (T_X14_allowed _ _ _ _ _ e748) (ci := 14) rfl eo748 wc_X14_allowed wm_L_87 wi_X14_allowed ws_X14_allowed wz_X14 hy_X14_allowed ⟨(Nat.le_of_ble_eq_true rfl), (Nat.le_of_ble_eq_true rfl)⟩ ⟨c748, z748⟩ (Nat.le_of_ble_eq_true rfl) rfl dL_law_748 ?_
  refine ev_icmp_eq C.1 (tgt := 1705) (by decide) dL_law_751 (fun q751 => ?_) (fun q751 => ?_)
  · replace hs := (if_pos q751).symm.trans hs
    exact (t_L_law_1705 C K23 hs)
  · replace hs := (if_neg q751).symm.trans hs
    obtain ⟨hw9, hc9, hz9⟩ := wE_at hs
    refine Ev.widen hc9 hz9 ?_
    have hs := hw9
    refine ev_iconst C.1 (v := 0) dL_law_754 (by decide) ?_
    obtain ⟨hz, rfl, rfl⟩ := rtZ_at hs
    exact ev_zret C.1 rfl hz rfl (Nat.le_refl _) (Nat.le_refl _) rfl dL_law_755
theorem t_L_law_706 (C : CxS p l s m args meth c B0 X L9 xs9) {k23 : Nat → Nat → Nat → Int32 → aH → Nat → Nat → aP} (K23 : ∀ (l1 : Nat) (l2 : Nat) (l3 : Nat) (l4 : Int32) (h : aH) (c9 z9 : Nat), k23 l1 l2 l3 l4 h c9 z9 = some (r, h', mc, ms) → Ev p l e { frames := 20, cells := mc, slots := ms, locals := 766 } s m args below meth c D B0 X ws0 r h' mc ms 7 c9 z9 23 [some (.ref (aE + 5)), some (.ref l1), some (.ref l2), some (.ref l3), some (.int l4), none, none] [] h) {l1 : Nat} {l2 : Nat} {l3 : Nat} {l4 : Int32} {h : aH} {c9 z9 : Nat} (hs : s_L_law_706 L9 xs9 k23 l1 l2 l3 l4 h c9 z9 = some (r, h', mc, ms)) : Ev p l e { frames := 20, cells := mc, slots := ms, locals := 766 } s m args below meth c D B0 X ws0 r h' mc ms 7 c9 z9 706 [some (.ref (aE + 5)), some (.ref l1), some (.ref l2), some (.ref l3), some (.int l4), none, none] [] h := by
  unfold s_L_law_706 at hs
  refine ev_aload_n C.1 (x := .ref l1) rfl trivial dL_law_706 ?_
  refine ev_aload_n C.1 (x := .ref (aE + 5)) rfl trivial dL_law_707 ?_
  refine ev_iload C.1 rfl dL_law_708 ?_
  refine ev_iconst C.1 (v := 1) dL_law_710 (by decide) ?_
  refine ev_iadd C.1 dL_law_711 ?_
  obtain ⟨x712, e712, hs⟩ := aB hs
  refine ev_sX C.1 C.2 e712 dL_law_712 ?_
  obtain ⟨eo713, hs⟩ := kO_at hs
  obtain ⟨x713, h713, n713, y713, e713, hs⟩ := dI_at hs
  obtain ⟨c713, z713, hs⟩ := ck_at hs
  refine ev_callV C.1 (T_X11_layer _ _ _ _ _ _ _ e713) (ci := 11) rfl eo713 wc_X11_layer wm_L_80 wi_X11_layer ws_X11_layer wz_X11 hy_X11_layer ⟨(Nat.le_of_ble_eq_true rfl), (Nat.le_of_ble_eq_true rfl)⟩ ⟨c713, z713⟩ (Nat.le_of_ble_eq_true rfl) rfl dL_law_713 ?_
  refine ev_aload_n C.1 (x := .ref l2) rfl trivial dL_law_716 ?_
  refine ev_aload_n C.1 (x := .ref (aE + 5)) rfl trivial dL_law_717 ?_
  refine ev_iload C.1 rfl dL_law_718 ?_
  refine ev_iconst C.1 (v := 1) dL_law_720 (by decide) ?_
  refine ev_iadd C.1 dL_law_721 ?_
  obtain ⟨x722, e722, hs⟩ := aB hs
  refine ev_sX C.1 C.2 e722 dL_law_722 ?_
  obtain ⟨eo723, hs⟩ := kO_at hs
  obtain ⟨x723, h723, e723, hs⟩ := cI_at hs
  obtain ⟨c723, z723, hs⟩ := ck_at hs
  refine ev_callV C.1 (T_X14_layer _ _ _ _ _ e723) (ci := 14) rfl eo723 wc_X14_layer wm_L_83 wi_X14_layer ws_X14_layer wz_X14 hy_X14_layer ⟨(Nat.le_of_ble_eq_true rfl), (Nat.le_of_ble_eq_true rfl)⟩ ⟨c723, z723⟩ (Nat.le_of_ble_eq_true rfl) rfl dL_law_723 ?_
  refine ev_icmp_eq C.1 (tgt := 1705) (by decide) dL_law_726 (fun q726 => ?_) (fun q726 => ?_)
  · replace hs := (if_pos q726).symm.trans hs
    exact (t_L_law_1705 C K23 hs)
  · replace hs := (if_neg q726).symm.trans hs
    obtain ⟨hw9, hc9, hz9⟩ := wE_at hs
    refine Ev.widen hc9 hz9 ?_
    have hs := hw9
    refine ev_iconst C.1 (v := 0) dL_law_729 (by decide) ?_
    obtain ⟨hz, rfl, rfl⟩ := rtZ_at hs
    exact ev_zret C.1 rfl hz rfl (Nat.le_refl _) (Nat.le_refl _) rfl dL_law_730
theorem t_L_law_693 (C : CxS p l s m args meth c B0 X L9 xs9) {k23 : Nat → Nat → Nat → Int32 → aH → Nat → Nat → aP} (K23 : ∀ (l1 : Nat) (l2 : Nat) (l3 : Nat) (l4 : Int32) (h : aH) (c9 z9 : Nat), k23 l1 l2 l3 l4 h c9 z9 = some (r, h', mc, ms) → Ev p l e { frames := 20, cells := mc, slots := ms, locals := 766 } s m args below meth c D B0 X ws0 r h' mc ms 7 c9 z9 23 [some (.ref (aE + 5)), some (.ref l1), some (.ref l2), some (.ref l3), some (.int l4), none, none] [] h) {l1 : Nat} {l2 : Nat} {l3 : Nat} {l4 : Int32} {h : aH} {c9 z9 : Nat} (hs : s_L_law_693 L9 xs9 k23 l1 l2 l3 l4 h c9 z9 = some (r, h', mc, ms)) : Ev p l e { frames := 20, cells := mc, slots := ms, locals := 766 } s m args below meth c D B0 X ws0 r h' mc ms 7 c9 z9 693 [some (.ref (aE + 5)), some (.ref l1), some (.ref l2), some (.ref l3), some (.int l4), none, none] [] h := by
  unfold s_L_law_693 at hs
  refine ev_aload_n C.1 (x := .ref l1) rfl trivial dL_law_693 ?_
  obtain ⟨eo694, hs⟩ := kO_at hs
  obtain ⟨x694, h694, n694, y694, e694, hs⟩ := dI_at hs
  obtain ⟨c694, z694, hs⟩ := ck_at hs
  refine ev_callV C.1 (T_X11_safe _ _ _ _ _ _ e694) (ci := 11) rfl eo694 wc_X11_safe wm_L_76 wi_X11_safe ws_X11_safe wz_X11 hy_X11_safe ⟨(Nat.le_of_ble_eq_true rfl), (Nat.le_of_ble_eq_true rfl)⟩ ⟨c694, z694⟩ (Nat.le_of_ble_eq_true rfl) rfl dL_law_694 ?_
  refine ev_aload_n C.1 (x := .ref l2) rfl trivial dL_law_697 ?_
  obtain ⟨eo698, hs⟩ := kO_at hs
  obtain ⟨x698, h698, e698, hs⟩ := cI_at hs
  obtain ⟨c698, z698, hs⟩ := ck_at hs
  refine ev_callV C.1 (T_X14_safe _ _ _ _ e698) (ci := 14) rfl eo698 wc_X14_safe wm_L_79 wi_X14_safe ws_X14_safe wz_X14 hy_X14_safe ⟨(Nat.le_of_ble_eq_true rfl), (Nat.le_of_ble_eq_true rfl)⟩ ⟨c698, z698⟩ (Nat.le_of_ble_eq_true rfl) rfl dL_law_698 ?_
  refine ev_icmp_eq C.1 (tgt := 1705) (by decide) dL_law_701 (fun q701 => ?_) (fun q701 => ?_)
  · replace hs := (if_pos q701).symm.trans hs
    exact (t_L_law_1705 C K23 hs)
  · replace hs := (if_neg q701).symm.trans hs
    obtain ⟨hw9, hc9, hz9⟩ := wE_at hs
    refine Ev.widen hc9 hz9 ?_
    have hs := hw9
    refine ev_iconst C.1 (v := 0) dL_law_704 (by decide) ?_
    obtain ⟨hz, rfl, rfl⟩ := rtZ_at hs
    exact ev_zret C.1 rfl hz rfl (Nat.le_refl _) (Nat.le_refl _) rfl dL_law_705
theorem t_L_law_632 (C : CxS p l s m args meth c B0 X L9 xs9) {k23 : Nat → Nat → Nat → Int32 → aH → Nat → Nat → aP} (K23 : ∀ (l1 : Nat) (l2 : Nat) (l3 : Nat) (l4 : Int32) (h : aH) (c9 z9 : Nat), k23 l1 l2 l3 l4 h c9 z9 = some (r, h', mc, ms) → Ev p l e { frames := 20, cells := mc, slots := ms, locals := 766 } s m args below meth c D B0 X ws0 r h' mc ms 7 c9 z9 23 [some (.ref (aE + 5)), some (.ref l1), some (.ref l2), some (.ref l3), some (.int l4), none, none] [] h) {l1 : Nat} {l2 : Nat} {l3 : Nat} {l4 : Int32} {h : aH} {c9 z9 : Nat} (hs : s_L_law_632 L9 xs9 k23 l1 l2 l3 l4 h c9 z9 = some (r, h', mc, ms)) : Ev p l e { frames := 20, cells := mc, slots := ms, locals := 766 } s m args below meth c D B0 X ws0 r h' mc ms 7 c9 z9 632 [some (.ref (aE + 5)), some (.ref l1), some (.ref l2), some (.ref l3), some (.int l4), none, none] [] h := by
  unfold s_L_law_632 at hs
  refine ev_aload_n C.1 (x := .ref l1) rfl trivial dL_law_632 ?_
  refine ev_aload_n C.1 (x := .ref (aE + 5)) rfl trivial dL_law_633 ?_
  refine ev_iload C.1 rfl dL_law_634 ?_
  refine ev_iconst C.1 (v := 1) dL_law_636 (by decide) ?_
  refine ev_iadd C.1 dL_law_637 ?_
  obtain ⟨x638, e638, hs⟩ := aB hs
  refine ev_sX C.1 C.2 e638 dL_law_638 ?_
  refine ev_aload_n C.1 (x := .ref (aE + 5)) rfl trivial dL_law_639 ?_
  refine ev_iload C.1 rfl dL_law_640 ?_
  refine ev_iconst C.1 (v := 2) dL_law_642 (by decide) ?_
  refine ev_iadd C.1 dL_law_643 ?_
  obtain ⟨x644, e644, hs⟩ := aB hs
  refine ev_sX C.1 C.2 e644 dL_law_644 ?_
  refine ev_aload_n C.1 (x := .ref (aE + 5)) rfl trivial dL_law_645 ?_
  refine ev_iload C.1 rfl dL_law_646 ?_
  refine ev_iconst C.1 (v := 3) dL_law_648 (by decide) ?_
  refine ev_iadd C.1 dL_law_649 ?_
  obtain ⟨x650, e650, hs⟩ := aB hs
  refine ev_sX C.1 C.2 e650 dL_law_650 ?_
  refine ev_aload_n C.1 (x := .ref (aE + 5)) rfl trivial dL_law_651 ?_
  refine ev_iload C.1 rfl dL_law_652 ?_
  refine ev_iconst C.1 (v := 4) dL_law_654 (by decide) ?_
  refine ev_iadd C.1 dL_law_655 ?_
  obtain ⟨x656, e656, hs⟩ := aB hs
  refine ev_sX C.1 C.2 e656 dL_law_656 ?_
  obtain ⟨eo657, hs⟩ := kO_at hs
  obtain ⟨x657, h657, e657, hs⟩ := cI_at hs
  obtain ⟨c657, z657, hs⟩ := ck_at hs
  refine ev_callV C.1 (T_X11_sight _ _ _ _ _ _ _ _ e657) (ci := 11) rfl eo657 wc_X11_sight wm_L_71 wi_X11_sight ws_X11_sight wz_X11 hy_X11_sight ⟨(Nat.le_of_ble_eq_true rfl), (Nat.le_of_ble_eq_true rfl)⟩ ⟨c657, z657⟩ (Nat.le_of_ble_eq_true rfl) rfl dL_law_657 ?_
  refine ev_aload_n C.1 (x := .ref l2) rfl trivial dL_law_660 ?_
  refine ev_aload_n C.1 (x := .ref (aE + 5)) rfl trivial dL_law_661 ?_
  refine ev_iload C.1 rfl dL_law_662 ?_
  refine ev_iconst C.1 (v := 1) dL_law_664 (by decide) ?_
  refine ev_iadd C.1 dL_law_665 ?_
  obtain ⟨x666, e666, hs⟩ := aB hs
  refine ev_sX C.1 C.2 e666 dL_law_666 ?_
  refine ev_aload_n C.1 (x := .ref (aE + 5)) rfl trivial dL_law_667 ?_
  refine ev_iload C.1 rfl dL_law_668 ?_
  refine ev_iconst C.1 (v := 2) dL_law_670 (by decide) ?_
  refine ev_iadd C.1 dL_law_671 ?_
  obtain ⟨x672, e672, hs⟩ := aB hs
  refine ev_sX C.1 C.2 e672 dL_law_672 ?_
  refine ev_aload_n C.1 (x := .ref (aE + 5)) rfl trivial dL_law_673 ?_
  refine ev_iload C.1 rfl dL_law_674 ?_
  refine ev_iconst C.1 (v := 3) dL_law_676 (by decide) ?_
  refine ev_iadd C.1 dL_law_677 ?_
  obtain ⟨x678, e678, hs⟩ := aB hs
  refine ev_sX C.1 C.2 e678 dL_law_678 ?_
  refine ev_aload_n C.1 (x := .ref (aE + 5)) rfl trivial dL_law_679 ?_
  refine ev_iload C.1 rfl dL_law_680 ?_
  refine ev_iconst C.1 (v := 4) dL_law_682 (by decide) ?_
  refine ev_iadd C.1 dL_law_683 ?_
  obtain ⟨x684, e684, hs⟩ := aB hs
  refine ev_sX C.1 C.2 e684 dL_law_684 ?_
  obtain ⟨eo685, hs⟩ := kO_at hs
  obtain ⟨x685, h685, e685, hs⟩ := cI_at hs
  obtain ⟨c685, z685, hs⟩ := ck_at hs
  refine ev_callV C.1 (T_X14_sight _ _ _ _ _ _ _ _ e685) (ci := 14) rfl eo685 wc_X14_sight wm_L_75 wi_X14_sight ws_X14_sight wz_X14 hy_X14_sight ⟨(Nat.le_of_ble_eq_true rfl), (Nat.le_of_ble_eq_true rfl)⟩ ⟨c685, z685⟩ (Nat.le_of_ble_eq_true rfl) rfl dL_law_685 ?_
  refine ev_icmp_eq C.1 (tgt := 1705) (by decide) dL_law_688 (fun q688 => ?_) (fun q688 => ?_)
  · replace hs := (if_pos q688).symm.trans hs
    exact (t_L_law_1705 C K23 hs)
  · replace hs := (if_neg q688).symm.trans hs
    obtain ⟨hw9, hc9, hz9⟩ := wE_at hs
    refine Ev.widen hc9 hz9 ?_
    have hs := hw9
    refine ev_iconst C.1 (v := 0) dL_law_691 (by decide) ?_
    obtain ⟨hz, rfl, rfl⟩ := rtZ_at hs
    exact ev_zret C.1 rfl hz rfl (Nat.le_refl _) (Nat.le_refl _) rfl dL_law_692
theorem t_L_law_583 (C : CxS p l s m args meth c B0 X L9 xs9) {k23 : Nat → Nat → Nat → Int32 → aH → Nat → Nat → aP} (K23 : ∀ (l1 : Nat) (l2 : Nat) (l3 : Nat) (l4 : Int32) (h : aH) (c9 z9 : Nat), k23 l1 l2 l3 l4 h c9 z9 = some (r, h', mc, ms) → Ev p l e { frames := 20, cells := mc, slots := ms, locals := 766 } s m args below meth c D B0 X ws0 r h' mc ms 7 c9 z9 23 [some (.ref (aE + 5)), some (.ref l1), some (.ref l2), some (.ref l3), some (.int l4), none, none] [] h) {l1 : Nat} {l2 : Nat} {l3 : Nat} {l4 : Int32} {h : aH} {c9 z9 : Nat} (hs : s_L_law_583 L9 xs9 k23 l1 l2 l3 l4 h c9 z9 = some (r, h', mc, ms)) : Ev p l e { frames := 20, cells := mc, slots := ms, locals := 766 } s m args below meth c D B0 X ws0 r h' mc ms 7 c9 z9 583 [some (.ref (aE + 5)), some (.ref l1), some (.ref l2), some (.ref l3), some (.int l4), none, none] [] h := by
  unfold s_L_law_583 at hs
  refine ev_aload_n C.1 (x := .ref l1) rfl trivial dL_law_583 ?_
  refine ev_aload_n C.1 (x := .ref (aE + 5)) rfl trivial dL_law_584 ?_
  refine ev_iload C.1 rfl dL_law_585 ?_
  refine ev_iconst C.1 (v := 1) dL_law_587 (by decide) ?_
  refine ev_iadd C.1 dL_law_588 ?_
  obtain ⟨x589, e589, hs⟩ := aB hs
  refine ev_sX C.1 C.2 e589 dL_law_589 ?_
  refine ev_aload_n C.1 (x := .ref (aE + 5)) rfl trivial dL_law_590 ?_
  refine ev_iload C.1 rfl dL_law_591 ?_
  refine ev_iconst C.1 (v := 2) dL_law_593 (by decide) ?_
  refine ev_iadd C.1 dL_law_594 ?_
  obtain ⟨x595, e595, hs⟩ := aB hs
  refine ev_sX C.1 C.2 e595 dL_law_595 ?_
  refine ev_aload_n C.1 (x := .ref (aE + 5)) rfl trivial dL_law_596 ?_
  refine ev_iload C.1 rfl dL_law_597 ?_
  refine ev_iconst C.1 (v := 3) dL_law_599 (by decide) ?_
  refine ev_iadd C.1 dL_law_600 ?_
  obtain ⟨x601, e601, hs⟩ := aB hs
  refine ev_sX C.1 C.2 e601 dL_law_601 ?_
  obtain ⟨eo602, hs⟩ := kO_at hs
  obtain ⟨x602, h602, e602, hs⟩ := cI_at hs
  obtain ⟨c602, z602, hs⟩ := ck_at hs
  refine ev_callV C.1 (T_X11_next _ _ _ _ _ _ _ e602) (ci := 11) rfl eo602 wc_X11_next wm_L_67 wi_X11_next ws_X11_next wz_X11 hy_X11_next ⟨(Nat.le_of_ble_eq_true rfl), (Nat.le_of_ble_eq_true rfl)⟩ ⟨c602, z602⟩ (Nat.le_of_ble_eq_true rfl) rfl dL_law_602 ?_
  refine ev_aload_n C.1 (x := .ref l2) rfl trivial dL_law_605 ?_
  refine ev_aload_n C.1 (x := .ref (aE + 5)) rfl trivial dL_law_606 ?_
  refine ev_iload C.1 rfl dL_law_607 ?_
  refine ev_iconst C.1 (v := 1) dL_law_609 (by decide) ?_
  refine ev_iadd C.1 dL_law_610 ?_
  obtain ⟨x611, e611, hs⟩ := aB hs
  refine ev_sX C.1 C.2 e611 dL_law_611 ?_
  refine ev_aload_n C.1 (x := .ref (aE + 5)) rfl trivial dL_law_612 ?_
  refine ev_iload C.1 rfl dL_law_613 ?_
  refine ev_iconst C.1 (v := 2) dL_law_615 (by decide) ?_
  refine ev_iadd C.1 dL_law_616 ?_
  obtain ⟨x617, e617, hs⟩ := aB hs
  refine ev_sX C.1 C.2 e617 dL_law_617 ?_
  refine ev_aload_n C.1 (x := .ref (aE + 5)) rfl trivial dL_law_618 ?_
  refine ev_iload C.1 rfl dL_law_619 ?_
  refine ev_iconst C.1 (v := 3) dL_law_621 (by decide) ?_
  refine ev_iadd C.1 dL_law_622 ?_
  obtain ⟨x623, e623, hs⟩ := aB hs
  refine ev_sX C.1 C.2 e623 dL_law_623 ?_
  obtain ⟨eo624, hs⟩ := kO_at hs
  obtain ⟨x624, h624, e624, hs⟩ := cI_at hs
  obtain ⟨c624, z624, hs⟩ := ck_at hs
  refine ev_callV C.1 (T_X14_next_ _ _ _ _ _ _ _ e624) (ci := 14) rfl eo624 wc_X14_next_ wm_L_70 wi_X14_next_ ws_X14_next_ wz_X14 hy_X14_next_ ⟨(Nat.le_of_ble_eq_true rfl), (Nat.le_of_ble_eq_true rfl)⟩ ⟨c624, z624⟩ (Nat.le_of_ble_eq_true rfl) rfl dL_law_624 ?_
  refine ev_icmp_eq C.1 (tgt := 1705) (by decide) dL_law_627 (fun q627 => ?_) (fun q627 => ?_)
  · replace hs := (if_pos q627).symm.trans hs
    exact (t_L_law_1705 C K23 hs)
  · replace hs := (if_neg q627).symm.trans hs
    obtain ⟨hw9, hc9, hz9⟩ := wE_at hs
    refine Ev.widen hc9 hz9 ?_
    have hs := hw9
    refine ev_iconst C.1 (v := 0) dL_law_630 (by decide) ?_
    obtain ⟨hz, rfl, rfl⟩ := rtZ_at hs
    exact ev_zret C.1 rfl hz rfl (Nat.le_refl _) (Nat.le_refl _) rfl dL_law_631
theorem t_L_law_546 (C : CxS p l s m args meth c B0 X L9 xs9) {k23 : Nat → Nat → Nat → Int32 → aH → Nat → Nat → aP} (K23 : ∀ (l1 : Nat) (l2 : Nat) (l3 : Nat) (l4 : Int32) (h : aH) (c9 z9 : Nat), k23 l1 l2 l3 l4 h c9 z9 = some (r, h', mc, ms) → Ev p l e { frames := 20, cells := mc, slots := ms, locals := 766 } s m args below meth c D B0 X ws0 r h' mc ms 7 c9 z9 23 [some (.ref (aE + 5)), some (.ref l1), some (.ref l2), some (.ref l3), some (.int l4), none, none] [] h) {l1 : Nat} {l2 : Nat} {l3 : Nat} {l4 : Int32} {h : aH} {c9 z9 : Nat} (hs : s_L_law_546 L9 xs9 k23 l1 l2 l3 l4 h c9 z9 = some (r, h', mc, ms)) : Ev p l e { frames := 20, cells := mc, slots := ms, locals := 766 } s m args below meth c D B0 X ws0 r h' mc ms 7 c9 z9 546 [some (.ref (aE + 5)), some (.ref l1), some (.ref l2), some (.ref l3), some (.int l4), none, none] [] h := by
  unfold s_L_law_546 at hs
  refine ev_aload_n C.1 (x := .ref l1) rfl trivial dL_law_546 ?_
  refine ev_aload_n C.1 (x := .ref (aE + 5)) rfl trivial dL_law_547 ?_
  refine ev_iload C.1 rfl dL_law_548 ?_
  refine ev_iconst C.1 (v := 1) dL_law_550 (by decide) ?_
  refine ev_iadd C.1 dL_law_551 ?_
  obtain ⟨x552, e552, hs⟩ := aB hs
  refine ev_sX C.1 C.2 e552 dL_law_552 ?_
  refine ev_aload_n C.1 (x := .ref (aE + 5)) rfl trivial dL_law_553 ?_
  refine ev_iload C.1 rfl dL_law_554 ?_
  refine ev_iconst C.1 (v := 2) dL_law_556 (by decide) ?_
  refine ev_iadd C.1 dL_law_557 ?_
  obtain ⟨x558, e558, hs⟩ := aB hs
  refine ev_sX C.1 C.2 e558 dL_law_558 ?_
  obtain ⟨eo559, hs⟩ := kO_at hs
  obtain ⟨x559, h559, e559, hs⟩ := cI_at hs
  obtain ⟨c559, z559, hs⟩ := ck_at hs
  refine ev_callV C.1 (T_X11_push _ _ _ _ _ _ e559) (ci := 11) rfl eo559 wc_X11_push wm_L_63 wi_X11_push ws_X11_push wz_X11 hy_X11_push ⟨(Nat.le_of_ble_eq_true rfl), (Nat.le_of_ble_eq_true rfl)⟩ ⟨c559, z559⟩ (Nat.le_of_ble_eq_true rfl) rfl dL_law_559 ?_
  refine ev_aload_n C.1 (x := .ref l2) rfl trivial dL_law_562 ?_
  refine ev_aload_n C.1 (x := .ref (aE + 5)) rfl trivial dL_law_563 ?_
  refine ev_iload C.1 rfl dL_law_564 ?_
  refine ev_iconst C.1 (v := 1) dL_law_566 (by decide) ?_
  refine ev_iadd C.1 dL_law_567 ?_
  obtain ⟨x568, e568, hs⟩ := aB hs
  refine ev_sX C.1 C.2 e568 dL_law_568 ?_
  refine ev_aload_n C.1 (x := .ref (aE + 5)) rfl trivial dL_law_569 ?_
  refine ev_iload C.1 rfl dL_law_570 ?_
  refine ev_iconst C.1 (v := 2) dL_law_572 (by decide) ?_
  refine ev_iadd C.1 dL_law_573 ?_
  obtain ⟨x574, e574, hs⟩ := aB hs
  refine ev_sX C.1 C.2 e574 dL_law_574 ?_
  obtain ⟨eo575, hs⟩ := kO_at hs
  obtain ⟨x575, h575, e575, hs⟩ := cI_at hs
  obtain ⟨c575, z575, hs⟩ := ck_at hs
  refine ev_callV C.1 (T_X14_push _ _ _ _ _ _ e575) (ci := 14) rfl eo575 wc_X14_push wm_L_66 wi_X14_push ws_X14_push wz_X14 hy_X14_push ⟨(Nat.le_of_ble_eq_true rfl), (Nat.le_of_ble_eq_true rfl)⟩ ⟨c575, z575⟩ (Nat.le_of_ble_eq_true rfl) rfl dL_law_575 ?_
  refine ev_icmp_eq C.1 (tgt := 1705) (by decide) dL_law_578 (fun q578 => ?_) (fun q578 => ?_)
  · replace hs := (if_pos q578).symm.trans hs
    exact (t_L_law_1705 C K23 hs)
  · replace hs := (if_neg q578).symm.trans hs
    obtain ⟨hw9, hc9, hz9⟩ := wE_at hs
    refine Ev.widen hc9 hz9 ?_
    have hs := hw9
    refine ev_iconst C.1 (v := 0) dL_law_581 (by decide) ?_
    obtain ⟨hz, rfl, rfl⟩ := rtZ_at hs
    exact ev_zret C.1 rfl hz rfl (Nat.le_refl _) (Nat.le_refl _) rfl dL_law_582
theorem t_L_law_509 (C : CxS p l s m args meth c B0 X L9 xs9) {k23 : Nat → Nat → Nat → Int32 → aH → Nat → Nat → aP} (K23 : ∀ (l1 : Nat) (l2 : Nat) (l3 : Nat) (l4 : Int32) (h : aH) (c9 z9 : Nat), k23 l1 l2 l3 l4 h c9 z9 = some (r, h', mc, ms) → Ev p l e { frames := 20, cells := mc, slots := ms, locals := 766 } s m args below meth c D B0 X ws0 r h' mc ms 7 c9 z9 23 [some (.ref (aE + 5)), some (.ref l1), some (.ref l2), some (.ref l3), some (.int l4), none, none] [] h) {l1 : Nat} {l2 : Nat} {l3 : Nat} {l4 : Int32} {h : aH} {c9 z9 : Nat} (hs : s_L_law_509 L9 xs9 k23 l1 l2 l3 l4 h c9 z9 = some (r, h', mc, ms)) : Ev p l e { frames := 20, cells := mc, slots := ms, locals := 766 } s m args below meth c D B0 X ws0 r h' mc ms 7 c9 z9 509 [some (.ref (aE + 5)), some (.ref l1), some (.ref l2), some (.ref l3), some (.int l4), none, none] [] h := by
  unfold s_L_law_509 at hs
  refine ev_aload_n C.1 (x := .ref l1) rfl trivial dL_law_509 ?_
  refine ev_aload_n C.1 (x := .ref (aE + 5)) rfl trivial dL_law_510 ?_
  refine ev_iload C.1 rfl dL_law_511 ?_
  refine ev_iconst C.1 (v := 1) dL_law_513 (by decide) ?_
  refine ev_iadd C.1 dL_law_514 ?_
  obtain ⟨x515, e515, hs⟩ := aB hs
  refine ev_sX C.1 C.2 e515 dL_law_515 ?_
  refine ev_aload_n C.1 (x := .ref (aE + 5)) rfl trivial dL_law_516 ?_
  refine ev_iload C.1 rfl dL_law_517 ?_
  refine ev_iconst C.1 (v := 2) dL_law_519 (by decide) ?_
  refine ev_iadd C.1 dL_law_520 ?_
  obtain ⟨x521, e521, hs⟩ := aB hs
  refine ev_sX C.1 C.2 e521 dL_law_521 ?_
  obtain ⟨eo522, hs⟩ := kO_at hs
  obtain ⟨x522, h522, e522, hs⟩ := cI_at hs
  obtain ⟨c522, z522, hs⟩ := ck_at hs
  refine ev_callV C.1 (T_X11_state _ _ _ _ _ _ e522) (ci := 11) rfl eo522 wc_X11_state wm_L_58 wi_X11_state ws_X11_state wz_X11 hy_X11_state ⟨(Nat.le_of_ble_eq_true rfl), (Nat.le_of_ble_eq_true rfl)⟩ ⟨c522, z522⟩ (Nat.le_of_ble_eq_true rfl) rfl dL_law_522 ?_
  refine ev_aload_n C.1 (x := .ref l2) rfl trivial dL_law_525 ?_
  refine ev_aload_n C.1 (x := .ref (aE + 5)) rfl trivial dL_law_526 ?_
  refine ev_iload C.1 rfl dL_law_527 ?_
  refine ev_iconst C.1 (v := 1) dL_law_529 (by decide) ?_
  refine ev_iadd C.1 dL_law_530 ?_
  obtain ⟨x531, e531, hs⟩ := aB hs
  refine ev_sX C.1 C.2 e531 dL_law_531 ?_
  refine ev_aload_n C.1 (x := .ref (aE + 5)) rfl trivial dL_law_532 ?_
  refine ev_iload C.1 rfl dL_law_533 ?_
  refine ev_iconst C.1 (v := 2) dL_law_535 (by decide) ?_
  refine ev_iadd C.1 dL_law_536 ?_
  obtain ⟨x537, e537, hs⟩ := aB hs
  refine ev_sX C.1 C.2 e537 dL_law_537 ?_
  obtain ⟨eo538, hs⟩ := kO_at hs
  obtain ⟨x538, h538, e538, hs⟩ := cI_at hs
  obtain ⟨c538, z538, hs⟩ := ck_at hs
  refine ev_callV C.1 (T_X14_state _ _ _ _ _ _ e538) (ci := 14) rfl eo538 wc_X14_state wm_L_62 wi_X14_state ws_X14_state wz_X14 hy_X14_state ⟨(Nat.le_of_ble_eq_true rfl), (Nat.le_of_ble_eq_true rfl)⟩ ⟨c538, z538⟩ (Nat.le_of_ble_eq_true rfl) rfl dL_law_538 ?_
  refine ev_icmp_eq C.1 (tgt := 1705) (by decide) dL_law_541 (fun q541 => ?_) (fun q541 => ?_)
  · replace hs := (if_pos q541).symm.trans hs
    exact (t_L_law_1705 C K23 hs)
  · replace hs := (if_neg q541).symm.trans hs
    obtain ⟨hw9, hc9, hz9⟩ := wE_at hs
    refine Ev.widen hc9 hz9 ?_
    have hs := hw9
    refine ev_iconst C.1 (v := 0) dL_law_544 (by decide) ?_
    obtain ⟨hz, rfl, rfl⟩ := rtZ_at hs
    exact ev_zret C.1 rfl hz rfl (Nat.le_refl _) (Nat.le_refl _) rfl dL_law_545
theorem t_L_law_460 (C : CxS p l s m args meth c B0 X L9 xs9) {k23 : Nat → Nat → Nat → Int32 → aH → Nat → Nat → aP} (K23 : ∀ (l1 : Nat) (l2 : Nat) (l3 : Nat) (l4 : Int32) (h : aH) (c9 z9 : Nat), k23 l1 l2 l3 l4 h c9 z9 = some (r, h', mc, ms) → Ev p l e { frames := 20, cells := mc, slots := ms, locals := 766 } s m args below meth c D B0 X ws0 r h' mc ms 7 c9 z9 23 [some (.ref (aE + 5)), some (.ref l1), some (.ref l2), some (.ref l3), some (.int l4), none, none] [] h) {l1 : Nat} {l2 : Nat} {l3 : Nat} {l4 : Int32} {h : aH} {c9 z9 : Nat} (hs : s_L_law_460 L9 xs9 k23 l1 l2 l3 l4 h c9 z9 = some (r, h', mc, ms)) : Ev p l e { frames := 20, cells := mc, slots := ms, locals := 766 } s m args below meth c D B0 X ws0 r h' mc ms 7 c9 z9 460 [some (.ref (aE + 5)), some (.ref l1), some (.ref l2), some (.ref l3), some (.int l4), none, none] [] h := by
  unfold s_L_law_460 at hs
  refine ev_aload_n C.1 (x := .ref l1) rfl trivial dL_law_460 ?_
  refine ev_aload_n C.1 (x := .ref (aE + 5)) rfl trivial dL_law_461 ?_
  refine ev_iload C.1 rfl dL_law_462 ?_
  refine ev_iconst C.1 (v := 1) dL_law_464 (by decide) ?_
  refine ev_iadd C.1 dL_law_465 ?_
  obtain ⟨x466, e466, hs⟩ := aB hs
  refine ev_sX C.1 C.2 e466 dL_law_466 ?_
  refine ev_aload_n C.1 (x := .ref (aE + 5)) rfl trivial dL_law_467 ?_
  refine ev_iload C.1 rfl dL_law_468 ?_
  refine ev_iconst C.1 (v := 2) dL_law_470 (by decide) ?_
  refine ev_iadd C.1 dL_law_471 ?_
  obtain ⟨x472, e472, hs⟩ := aB hs
  refine ev_sX C.1 C.2 e472 dL_law_472 ?_
  refine ev_aload_n C.1 (x := .ref (aE + 5)) rfl trivial dL_law_473 ?_
  refine ev_iload C.1 rfl dL_law_474 ?_
  refine ev_iconst C.1 (v := 3) dL_law_476 (by decide) ?_
  refine ev_iadd C.1 dL_law_477 ?_
  obtain ⟨x478, e478, hs⟩ := aB hs
  refine ev_sX C.1 C.2 e478 dL_law_478 ?_
  obtain ⟨eo479, hs⟩ := kO_at hs
  obtain ⟨x479, h479, e479, hs⟩ := cI_at hs
  obtain ⟨c479, z479, hs⟩ := ck_at hs
  refine ev_callV C.1 (T_X11_cell _ _ _ _ _ _ _ e479) (ci := 11) rfl eo479 wc_X11_cell wm_L_54 wi_X11_cell ws_X11_cell wz_X11 hy_X11_cell ⟨(Nat.le_of_ble_eq_true rfl), (Nat.le_of_ble_eq_true rfl)⟩ ⟨c479, z479⟩ (Nat.le_of_ble_eq_true rfl) rfl dL_law_479 ?_
  refine ev_aload_n C.1 (x := .ref l2) rfl trivial dL_law_482 ?_
  refine ev_aload_n C.1 (x := .ref (aE + 5)) rfl trivial dL_law_483 ?_
  refine ev_iload C.1 rfl dL_law_484 ?_
  refine ev_iconst C.1 (v := 1) dL_law_486 (by decide) ?_
  refine ev_iadd C.1 dL_law_487 ?_
  obtain ⟨x488, e488, hs⟩ := aB hs
  refine ev_sX C.1 C.2 e488 dL_law_488 ?_
  refine ev_aload_n C.1 (x := .ref (aE + 5)) rfl trivial dL_law_489 ?_
  refine ev_iload C.1 rfl dL_law_490 ?_
  refine ev_iconst C.1 (v := 2) dL_law_492 (by decide) ?_
  refine ev_iadd C.1 dL_law_493 ?_
  obtain ⟨x494, e494, hs⟩ := aB hs
  refine ev_sX C.1 C.2 e494 dL_law_494 ?_
  refine ev_aload_n C.1 (x := .ref (aE + 5)) rfl trivial dL_law_495 ?_
  refine ev_iload C.1 rfl dL_law_496 ?_
  refine ev_iconst C.1 (v := 3) dL_law_498 (by decide) ?_
  refine ev_iadd C.1 dL_law_499 ?_
  obtain ⟨x500, e500, hs⟩ := aB hs
  refine ev_sX C.1 C.2 e500 dL_law_500 ?_
  obtain ⟨eo501, hs⟩ := kO_at hs
  obtain ⟨x501, h501, e501, hs⟩ := cI_at hs
  obtain ⟨c501, z501, hs⟩ := ck_at hs
  refine ev_callV C.1 (T_X14_cell _ _ _ _ _ _ _ e501) (ci := 14) rfl eo501 wc_X14_cell wm_L_57 wi_X14_cell ws_X14_cell wz_X14 hy_X14_cell ⟨(Nat.le_of_ble_eq_true rfl), (Nat.le_of_ble_eq_true rfl)⟩ ⟨c501, z501⟩ (Nat.le_of_ble_eq_true rfl) rfl dL_law_501 ?_
  refine ev_icmp_eq C.1 (tgt := 1705) (by decide) dL_law_504 (fun q504 => ?_) (fun q504 => ?_)
  · replace hs := (if_pos q504).symm.trans hs
    exact (t_L_law_1705 C K23 hs)
  · replace hs := (if_neg q504).symm.trans hs
    obtain ⟨hw9, hc9, hz9⟩ := wE_at hs
    refine Ev.widen hc9 hz9 ?_
    have hs := hw9
    refine ev_iconst C.1 (v := 0) dL_law_507 (by decide) ?_
    obtain ⟨hz, rfl, rfl⟩ := rtZ_at hs
    exact ev_zret C.1 rfl hz rfl (Nat.le_refl _) (Nat.le_refl _) rfl dL_law_508
theorem t_L_law_435 (C : CxS p l s m args meth c B0 X L9 xs9) {k23 : Nat → Nat → Nat → Int32 → aH → Nat → Nat → aP} (K23 : ∀ (l1 : Nat) (l2 : Nat) (l3 : Nat) (l4 : Int32) (h : aH) (c9 z9 : Nat), k23 l1 l2 l3 l4 h c9 z9 = some (r, h', mc, ms) → Ev p l e { frames := 20, cells := mc, slots := ms, locals := 766 } s m args below meth c D B0 X ws0 r h' mc ms 7 c9 z9 23 [some (.ref (aE + 5)), some (.ref l1), some (.ref l2), some (.ref l3), some (.int l4), none, none] [] h) {l1 : Nat} {l2 : Nat} {l3 : Nat} {l4 : Int32} {h : aH} {c9 z9 : Nat} (hs : s_L_law_435 L9 xs9 k23 l1 l2 l3 l4 h c9 z9 = some (r, h', mc, ms)) : Ev p l e { frames := 20, cells := mc, slots := ms, locals := 766 } s m args below meth c D B0 X ws0 r h' mc ms 7 c9 z9 435 [some (.ref (aE + 5)), some (.ref l1), some (.ref l2), some (.ref l3), some (.int l4), none, none] [] h := by
  unfold s_L_law_435 at hs
  refine ev_aload_n C.1 (x := .ref l1) rfl trivial dL_law_435 ?_
  refine ev_aload_n C.1 (x := .ref (aE + 5)) rfl trivial dL_law_436 ?_
  refine ev_iload C.1 rfl dL_law_437 ?_
  refine ev_iconst C.1 (v := 1) dL_law_439 (by decide) ?_
  refine ev_iadd C.1 dL_law_440 ?_
  obtain ⟨x441, e441, hs⟩ := aB hs
  refine ev_sX C.1 C.2 e441 dL_law_441 ?_
  obtain ⟨eo442, hs⟩ := kO_at hs
  obtain ⟨x442, h442, e442, hs⟩ := cI_at hs
  obtain ⟨c442, z442, hs⟩ := ck_at hs
  refine ev_callV C.1 (T_X11_count _ _ _ _ _ e442) (ci := 11) rfl eo442 wc_X11_count wm_L_50 wi_X11_count ws_X11_count wz_X11 hy_X11_count ⟨(Nat.le_of_ble_eq_true rfl), (Nat.le_of_ble_eq_true rfl)⟩ ⟨c442, z442⟩ (Nat.le_of_ble_eq_true rfl) rfl dL_law_442 ?_
  refine ev_aload_n C.1 (x := .ref l2) rfl trivial dL_law_445 ?_
  refine ev_aload_n C.1 (x := .ref (aE + 5)) rfl trivial dL_law_446 ?_
  refine ev_iload C.1 rfl dL_law_447 ?_
  refine ev_iconst C.1 (v := 1) dL_law_449 (by decide) ?_
  refine ev_iadd C.1 dL_law_450 ?_
  obtain ⟨x451, e451, hs⟩ := aB hs
  refine ev_sX C.1 C.2 e451 dL_law_451 ?_
  obtain ⟨eo452, hs⟩ := kO_at hs
  obtain ⟨x452, h452, e452, hs⟩ := cI_at hs
  obtain ⟨c452, z452, hs⟩ := ck_at hs
  refine ev_callV C.1 (T_X14_count _ _ _ _ _ e452) (ci := 14) rfl eo452 wc_X14_count wm_L_53 wi_X14_count ws_X14_count wz_X14 hy_X14_count ⟨(Nat.le_of_ble_eq_true rfl), (Nat.le_of_ble_eq_true rfl)⟩ ⟨c452, z452⟩ (Nat.le_of_ble_eq_true rfl) rfl dL_law_452 ?_
  refine ev_icmp_eq C.1 (tgt := 1705) (by decide) dL_law_455 (fun q455 => ?_) (fun q455 => ?_)
  · replace hs := (if_pos q455).symm.trans hs
    exact (t_L_law_1705 C K23 hs)
  · replace hs := (if_neg q455).symm.trans hs
    obtain ⟨hw9, hc9, hz9⟩ := wE_at hs
    refine Ev.widen hc9 hz9 ?_
    have hs := hw9
    refine ev_iconst C.1 (v := 0) dL_law_458 (by decide) ?_
    obtain ⟨hz, rfl, rfl⟩ := rtZ_at hs
    exact ev_zret C.1 rfl hz rfl (Nat.le_refl _) (Nat.le_refl _) rfl dL_law_459
theorem t_L_law_422 (C : CxS p l s m args meth c B0 X L9 xs9) {k23 : Nat → Nat → Nat → Int32 → aH → Nat → Nat → aP} (K23 : ∀ (l1 : Nat) (l2 : Nat) (l3 : Nat) (l4 : Int32) (h : aH) (c9 z9 : Nat), k23 l1 l2 l3 l4 h c9 z9 = some (r, h', mc, ms) → Ev p l e { frames := 20, cells := mc, slots := ms, locals := 766 } s m args below meth c D B0 X ws0 r h' mc ms 7 c9 z9 23 [some (.ref (aE + 5)), some (.ref l1), some (.ref l2), some (.ref l3), some (.int l4), none, none] [] h) {l1 : Nat} {l2 : Nat} {l3 : Nat} {l4 : Int32} {h : aH} {c9 z9 : Nat} (hs : s_L_law_422 L9 xs9 k23 l1 l2 l3 l4 h c9 z9 = some (r, h', mc, ms)) : Ev p l e { frames := 20, cells := mc, slots := ms, locals := 766 } s m args below meth c D B0 X ws0 r h' mc ms 7 c9 z9 422 [some (.ref (aE + 5)), some (.ref l1), some (.ref l2), some (.ref l3), some (.int l4), none, none] [] h := by
  unfold s_L_law_422 at hs
  refine ev_aload_n C.1 (x := .ref l1) rfl trivial dL_law_422 ?_
  obtain ⟨eo423, hs⟩ := kO_at hs
  obtain ⟨x423, h423, e423, hs⟩ := cI_at hs
  obtain ⟨c423, z423, hs⟩ := ck_at hs
  refine ev_callV C.1 (T_X11_where _ _ _ _ e423) (ci := 11) rfl eo423 wc_X11_where wm_L_46 wi_X11_where ws_X11_where wz_X11 hy_X11_where ⟨(Nat.le_of_ble_eq_true rfl), (Nat.le_of_ble_eq_true rfl)⟩ ⟨c423, z423⟩ (Nat.le_of_ble_eq_true rfl) rfl dL_law_423 ?_
  refine ev_aload_n C.1 (x := .ref l2) rfl trivial dL_law_426 ?_
  obtain ⟨eo427, hs⟩ := kO_at hs
  obtain ⟨x427, h427, e427, hs⟩ := cI_at hs
  obtain ⟨c427, z427, hs⟩ := ck_at hs
  refine ev_callV C.1 (T_X14_where _ _ _ _ e427) (ci := 14) rfl eo427 wc_X14_where wm_L_49 wi_X14_where ws_X14_where wz_X14 hy_X14_where ⟨(Nat.le_of_ble_eq_true rfl), (Nat.le_of_ble_eq_true rfl)⟩ ⟨c427, z427⟩ (Nat.le_of_ble_eq_true rfl) rfl dL_law_427 ?_
  refine ev_icmp_eq C.1 (tgt := 1705) (by decide) dL_law_430 (fun q430 => ?_) (fun q430 => ?_)
  · replace hs := (if_pos q430).symm.trans hs
    exact (t_L_law_1705 C K23 hs)
  · replace hs := (if_neg q430).symm.trans hs
    obtain ⟨hw9, hc9, hz9⟩ := wE_at hs
    refine Ev.widen hc9 hz9 ?_
    have hs := hw9
    refine ev_iconst C.1 (v := 0) dL_law_433 (by decide) ?_
    obtain ⟨hz, rfl, rfl⟩ := rtZ_at hs
    exact ev_zret C.1 rfl hz rfl (Nat.le_refl _) (Nat.le_refl _) rfl dL_law_434
theorem t_L_law_409 (C : CxS p l s m args meth c B0 X L9 xs9) {k23 : Nat → Nat → Nat → Int32 → aH → Nat → Nat → aP} (K23 : ∀ (l1 : Nat) (l2 : Nat) (l3 : Nat) (l4 : Int32) (h : aH) (c9 z9 : Nat), k23 l1 l2 l3 l4 h c9 z9 = some (r, h', mc, ms) → Ev p l e { frames := 20, cells := mc, slots := ms, locals := 766 } s m args below meth c D B0 X ws0 r h' mc ms 7 c9 z9 23 [some (.ref (aE + 5)), some (.ref l1), some (.ref l2), some (.ref l3), some (.int l4), none, none] [] h) {l1 : Nat} {l2 : Nat} {l3 : Nat} {l4 : Int32} {h : aH} {c9 z9 : Nat} (hs : s_L_law_409 L9 xs9 k23 l1 l2 l3 l4 h c9 z9 = some (r, h', mc, ms)) : Ev p l e { frames := 20, cells := mc, slots := ms, locals := 766 } s m args below meth c D B0 X ws0 r h' mc ms 7 c9 z9 409 [some (.ref (aE + 5)), some (.ref l1), some (.ref l2), some (.ref l3), some (.int l4), none, none] [] h := by
  unfold s_L_law_409 at hs
  refine ev_aload_n C.1 (x := .ref l1) rfl trivial dL_law_409 ?_
  obtain ⟨eo410, hs⟩ := kO_at hs
  obtain ⟨x410, h410, e410, hs⟩ := cI_at hs
  obtain ⟨c410, z410, hs⟩ := ck_at hs
  refine ev_callV C.1 (T_X11_fault _ _ _ _ e410) (ci := 11) rfl eo410 wc_X11_fault wm_L_41 wi_X11_fault ws_X11_fault wz_X11 hy_X11_fault ⟨(Nat.le_of_ble_eq_true rfl), (Nat.le_of_ble_eq_true rfl)⟩ ⟨c410, z410⟩ (Nat.le_of_ble_eq_true rfl) rfl dL_law_410 ?_
  refine ev_aload_n C.1 (x := .ref l2) rfl trivial dL_law_413 ?_
  obtain ⟨eo414, hs⟩ := kO_at hs
  obtain ⟨x414, h414, e414, hs⟩ := cI_at hs
  obtain ⟨c414, z414, hs⟩ := ck_at hs
  refine ev_callV C.1 (T_X14_fault _ _ _ _ e414) (ci := 14) rfl eo414 wc_X14_fault wm_L_45 wi_X14_fault ws_X14_fault wz_X14 hy_X14_fault ⟨(Nat.le_of_ble_eq_true rfl), (Nat.le_of_ble_eq_true rfl)⟩ ⟨c414, z414⟩ (Nat.le_of_ble_eq_true rfl) rfl dL_law_414 ?_
  refine ev_icmp_eq C.1 (tgt := 1705) (by decide) dL_law_417 (fun q417 => ?_) (fun q417 => ?_)
  · replace hs := (if_pos q417).symm.trans hs
    exact (t_L_law_1705 C K23 hs)
  · replace hs := (if_neg q417).symm.trans hs
    obtain ⟨hw9, hc9, hz9⟩ := wE_at hs
    refine Ev.widen hc9 hz9 ?_
    have hs := hw9
    refine ev_iconst C.1 (v := 0) dL_law_420 (by decide) ?_
    obtain ⟨hz, rfl, rfl⟩ := rtZ_at hs
    exact ev_zret C.1 rfl hz rfl (Nat.le_refl _) (Nat.le_refl _) rfl dL_law_421
theorem t_L_law_384 (C : CxS p l s m args meth c B0 X L9 xs9) {k23 : Nat → Nat → Nat → Int32 → aH → Nat → Nat → aP} (K23 : ∀ (l1 : Nat) (l2 : Nat) (l3 : Nat) (l4 : Int32) (h : aH) (c9 z9 : Nat), k23 l1 l2 l3 l4 h c9 z9 = some (r, h', mc, ms) → Ev p l e { frames := 20, cells := mc, slots := ms, locals := 766 } s m args below meth c D B0 X ws0 r h' mc ms 7 c9 z9 23 [some (.ref (aE + 5)), some (.ref l1), some (.ref l2), some (.ref l3), some (.int l4), none, none] [] h) {l1 : Nat} {l2 : Nat} {l3 : Nat} {l4 : Int32} {h : aH} {c9 z9 : Nat} (hs : s_L_law_384 L9 xs9 k23 l1 l2 l3 l4 h c9 z9 = some (r, h', mc, ms)) : Ev p l e { frames := 20, cells := mc, slots := ms, locals := 766 } s m args below meth c D B0 X ws0 r h' mc ms 7 c9 z9 384 [some (.ref (aE + 5)), some (.ref l1), some (.ref l2), some (.ref l3), some (.int l4), none, none] [] h := by
  unfold s_L_law_384 at hs
  refine ev_aload_n C.1 (x := .ref l1) rfl trivial dL_law_384 ?_
  refine ev_aload_n C.1 (x := .ref (aE + 5)) rfl trivial dL_law_385 ?_
  refine ev_iload C.1 rfl dL_law_386 ?_
  refine ev_iconst C.1 (v := 1) dL_law_388 (by decide) ?_
  refine ev_iadd C.1 dL_law_389 ?_
  obtain ⟨x390, e390, hs⟩ := aB hs
  refine ev_sX C.1 C.2 e390 dL_law_390 ?_
  obtain ⟨eo391, hs⟩ := kO_at hs
  obtain ⟨x391, h391, e391, hs⟩ := cI_at hs
  obtain ⟨c391, z391, hs⟩ := ck_at hs
  refine ev_callV C.1 (T_X11_cost _ _ _ _ _ e391) (ci := 11) rfl eo391 wc_X11_cost wm_L_37 wi_X11_cost ws_X11_cost wz_X11 hy_X11_cost ⟨(Nat.le_of_ble_eq_true rfl), (Nat.le_of_ble_eq_true rfl)⟩ ⟨c391, z391⟩ (Nat.le_of_ble_eq_true rfl) rfl dL_law_391 ?_
  refine ev_aload_n C.1 (x := .ref l2) rfl trivial dL_law_394 ?_
  refine ev_aload_n C.1 (x := .ref (aE + 5)) rfl trivial dL_law_395 ?_
  refine ev_iload C.1 rfl dL_law_396 ?_
  refine ev_iconst C.1 (v := 1) dL_law_398 (by decide) ?_
  refine ev_iadd C.1 dL_law_399 ?_
  obtain ⟨x400, e400, hs⟩ := aB hs
  refine ev_sX C.1 C.2 e400 dL_law_400 ?_
  obtain ⟨eo401, hs⟩ := kO_at hs
  obtain ⟨x401, h401, e401, hs⟩ := cI_at hs
  obtain ⟨c401, z401, hs⟩ := ck_at hs
  refine ev_callV C.1 (T_X14_cost _ _ _ _ _ e401) (ci := 14) rfl eo401 wc_X14_cost wm_L_40 wi_X14_cost ws_X14_cost wz_X14 hy_X14_cost ⟨(Nat.le_of_ble_eq_true rfl), (Nat.le_of_ble_eq_true rfl)⟩ ⟨c401, z401⟩ (Nat.le_of_ble_eq_true rfl) rfl dL_law_401 ?_
  refine ev_icmp_eq C.1 (tgt := 1705) (by decide) dL_law_404 (fun q404 => ?_) (fun q404 => ?_)
  · replace hs := (if_pos q404).symm.trans hs
    exact (t_L_law_1705 C K23 hs)
  · replace hs := (if_neg q404).symm.trans hs
    obtain ⟨hw9, hc9, hz9⟩ := wE_at hs
    refine Ev.widen hc9 hz9 ?_
    have hs := hw9
    refine ev_iconst C.1 (v := 0) dL_law_407 (by decide) ?_
    obtain ⟨hz, rfl, rfl⟩ := rtZ_at hs
    exact ev_zret C.1 rfl hz rfl (Nat.le_refl _) (Nat.le_refl _) rfl dL_law_408
theorem t_L_law_359 (C : CxS p l s m args meth c B0 X L9 xs9) {k23 : Nat → Nat → Nat → Int32 → aH → Nat → Nat → aP} (K23 : ∀ (l1 : Nat) (l2 : Nat) (l3 : Nat) (l4 : Int32) (h : aH) (c9 z9 : Nat), k23 l1 l2 l3 l4 h c9 z9 = some (r, h', mc, ms) → Ev p l e { frames := 20, cells := mc, slots := ms, locals := 766 } s m args below meth c D B0 X ws0 r h' mc ms 7 c9 z9 23 [some (.ref (aE + 5)), some (.ref l1), some (.ref l2), some (.ref l3), some (.int l4), none, none] [] h) {l1 : Nat} {l2 : Nat} {l3 : Nat} {l4 : Int32} {h : aH} {c9 z9 : Nat} (hs : s_L_law_359 L9 xs9 k23 l1 l2 l3 l4 h c9 z9 = some (r, h', mc, ms)) : Ev p l e { frames := 20, cells := mc, slots := ms, locals := 766 } s m args below meth c D B0 X ws0 r h' mc ms 7 c9 z9 359 [some (.ref (aE + 5)), some (.ref l1), some (.ref l2), some (.ref l3), some (.int l4), none, none] [] h := by
  unfold s_L_law_359 at hs
  refine ev_aload_n C.1 (x := .ref l1) rfl trivial dL_law_359 ?_
  refine ev_aload_n C.1 (x := .ref (aE + 5)) rfl trivial dL_law_360 ?_
  refine ev_iload C.1 rfl dL_law_361 ?_
  refine ev_iconst C.1 (v := 1) dL_law_363 (by decide) ?_
  refine ev_iadd C.1 dL_law_364 ?_
  obtain ⟨x365, e365, hs⟩ := aB hs
  refine ev_sX C.1 C.2 e365 dL_law_365 ?_
  obtain ⟨eo366, hs⟩ := kO_at hs
  obtain ⟨x366, h366, e366, hs⟩ := cI_at hs
  obtain ⟨c366, z366, hs⟩ := ck_at hs
  refine ev_callV C.1 (T_X11_goal _ _ _ _ _ e366) (ci := 11) rfl eo366 wc_X11_goal wm_L_33 wi_X11_goal ws_X11_goal wz_X11 hy_X11_goal ⟨(Nat.le_of_ble_eq_true rfl), (Nat.le_of_ble_eq_true rfl)⟩ ⟨c366, z366⟩ (Nat.le_of_ble_eq_true rfl) rfl dL_law_366 ?_
  refine ev_aload_n C.1 (x := .ref l2) rfl trivial dL_law_369 ?_
  refine ev_aload_n C.1 (x := .ref (aE + 5)) rfl trivial dL_law_370 ?_
  refine ev_iload C.1 rfl dL_law_371 ?_
  refine ev_iconst C.1 (v := 1) dL_law_373 (by decide) ?_
  refine ev_iadd C.1 dL_law_374 ?_
  obtain ⟨x375, e375, hs⟩ := aB hs
  refine ev_sX C.1 C.2 e375 dL_law_375 ?_
  obtain ⟨eo376, hs⟩ := kO_at hs
  obtain ⟨x376, h376, e376, hs⟩ := cI_at hs
  obtain ⟨c376, z376, hs⟩ := ck_at hs
  refine ev_callV C.1 (T_X14_goal _ _ _ _ _ e376) (ci := 14) rfl eo376 wc_X14_goal wm_L_36 wi_X14_goal ws_X14_goal wz_X14 hy_X14_goal ⟨(Nat.le_of_ble_eq_true rfl), (Nat.le_of_ble_eq_true rfl)⟩ ⟨c376, z376⟩ (Nat.le_of_ble_eq_true rfl) rfl dL_law_376 ?_
  refine ev_icmp_eq C.1 (tgt := 1705) (by decide) dL_law_379 (fun q379 => ?_) (fun q379 => ?_)
  · replace hs := (if_pos q379).symm.trans hs
    exact (t_L_law_1705 C K23 hs)
  · replace hs := (if_neg q379).symm.trans hs
    obtain ⟨hw9, hc9, hz9⟩ := wE_at hs
    refine Ev.widen hc9 hz9 ?_
    have hs := hw9
    refine ev_iconst C.1 (v := 0) dL_law_382 (by decide) ?_
    obtain ⟨hz, rfl, rfl⟩ := rtZ_at hs
    exact ev_zret C.1 rfl hz rfl (Nat.le_refl _) (Nat.le_refl _) rfl dL_law_383
theorem t_L_law_334 (C : CxS p l s m args meth c B0 X L9 xs9) {k23 : Nat → Nat → Nat → Int32 → aH → Nat → Nat → aP} (K23 : ∀ (l1 : Nat) (l2 : Nat) (l3 : Nat) (l4 : Int32) (h : aH) (c9 z9 : Nat), k23 l1 l2 l3 l4 h c9 z9 = some (r, h', mc, ms) → Ev p l e { frames := 20, cells := mc, slots := ms, locals := 766 } s m args below meth c D B0 X ws0 r h' mc ms 7 c9 z9 23 [some (.ref (aE + 5)), some (.ref l1), some (.ref l2), some (.ref l3), some (.int l4), none, none] [] h) {l1 : Nat} {l2 : Nat} {l3 : Nat} {l4 : Int32} {h : aH} {c9 z9 : Nat} (hs : s_L_law_334 L9 xs9 k23 l1 l2 l3 l4 h c9 z9 = some (r, h', mc, ms)) : Ev p l e { frames := 20, cells := mc, slots := ms, locals := 766 } s m args below meth c D B0 X ws0 r h' mc ms 7 c9 z9 334 [some (.ref (aE + 5)), some (.ref l1), some (.ref l2), some (.ref l3), some (.int l4), none, none] [] h := by
  unfold s_L_law_334 at hs
  refine ev_aload_n C.1 (x := .ref l1) rfl trivial dL_law_334 ?_
  refine ev_aload_n C.1 (x := .ref (aE + 5)) rfl trivial dL_law_335 ?_
  refine ev_iload C.1 rfl dL_law_336 ?_
  refine ev_iconst C.1 (v := 1) dL_law_338 (by decide) ?_
  refine ev_iadd C.1 dL_law_339 ?_
  obtain ⟨x340, e340, hs⟩ := aB hs
  refine ev_sX C.1 C.2 e340 dL_law_340 ?_
  obtain ⟨eo341, hs⟩ := kO_at hs
  obtain ⟨x341, h341, e341, hs⟩ := cI_at hs
  obtain ⟨c341, z341, hs⟩ := ck_at hs
  refine ev_callV C.1 (T_X11_good _ _ _ _ _ e341) (ci := 11) rfl eo341 wc_X11_good wm_L_29 wi_X11_good ws_X11_good wz_X11 hy_X11_good ⟨(Nat.le_of_ble_eq_true rfl), (Nat.le_of_ble_eq_true rfl)⟩ ⟨c341, z341⟩ (Nat.le_of_ble_eq_true rfl) rfl dL_law_341 ?_
  refine ev_aload_n C.1 (x := .ref l2) rfl trivial dL_law_344 ?_
  refine ev_aload_n C.1 (x := .ref (aE + 5)) rfl trivial dL_law_345 ?_
  refine ev_iload C.1 rfl dL_law_346 ?_
  refine ev_iconst C.1 (v := 1) dL_law_348 (by decide) ?_
  refine ev_iadd C.1 dL_law_349 ?_
  obtain ⟨x350, e350, hs⟩ := aB hs
  refine ev_sX C.1 C.2 e350 dL_law_350 ?_
  obtain ⟨eo351, hs⟩ := kO_at hs
  obtain ⟨x351, h351, e351, hs⟩ := cI_at hs
  obtain ⟨c351, z351, hs⟩ := ck_at hs
  refine ev_callV C.1 (T_X14_good _ _ _ _ _ e351) (ci := 14) rfl eo351 wc_X14_good wm_L_32 wi_X14_good ws_X14_good wz_X14 hy_X14_good ⟨(Nat.le_of_ble_eq_true rfl), (Nat.le_of_ble_eq_true rfl)⟩ ⟨c351, z351⟩ (Nat.le_of_ble_eq_true rfl) rfl dL_law_351 ?_
  refine ev_icmp_eq C.1 (tgt := 1705) (by decide) dL_law_354 (fun q354 => ?_) (fun q354 => ?_)
  · replace hs := (if_pos q354).symm.trans hs
    exact (t_L_law_1705 C K23 hs)
  · replace hs := (if_neg q354).symm.trans hs
    obtain ⟨hw9, hc9, hz9⟩ := wE_at hs
    refine Ev.widen hc9 hz9 ?_
    have hs := hw9
    refine ev_iconst C.1 (v := 0) dL_law_357 (by decide) ?_
    obtain ⟨hz, rfl, rfl⟩ := rtZ_at hs
    exact ev_zret C.1 rfl hz rfl (Nat.le_refl _) (Nat.le_refl _) rfl dL_law_358
theorem t_L_law_309 (C : CxS p l s m args meth c B0 X L9 xs9) {k23 : Nat → Nat → Nat → Int32 → aH → Nat → Nat → aP} (K23 : ∀ (l1 : Nat) (l2 : Nat) (l3 : Nat) (l4 : Int32) (h : aH) (c9 z9 : Nat), k23 l1 l2 l3 l4 h c9 z9 = some (r, h', mc, ms) → Ev p l e { frames := 20, cells := mc, slots := ms, locals := 766 } s m args below meth c D B0 X ws0 r h' mc ms 7 c9 z9 23 [some (.ref (aE + 5)), some (.ref l1), some (.ref l2), some (.ref l3), some (.int l4), none, none] [] h) {l1 : Nat} {l2 : Nat} {l3 : Nat} {l4 : Int32} {h : aH} {c9 z9 : Nat} (hs : s_L_law_309 L9 xs9 k23 l1 l2 l3 l4 h c9 z9 = some (r, h', mc, ms)) : Ev p l e { frames := 20, cells := mc, slots := ms, locals := 766 } s m args below meth c D B0 X ws0 r h' mc ms 7 c9 z9 309 [some (.ref (aE + 5)), some (.ref l1), some (.ref l2), some (.ref l3), some (.int l4), none, none] [] h := by
  unfold s_L_law_309 at hs
  refine ev_aload_n C.1 (x := .ref l1) rfl trivial dL_law_309 ?_
  refine ev_aload_n C.1 (x := .ref (aE + 5)) rfl trivial dL_law_310 ?_
  refine ev_iload C.1 rfl dL_law_311 ?_
  refine ev_iconst C.1 (v := 1) dL_law_313 (by decide) ?_
  refine ev_iadd C.1 dL_law_314 ?_
  obtain ⟨x315, e315, hs⟩ := aB hs
  refine ev_sX C.1 C.2 e315 dL_law_315 ?_
  obtain ⟨eo316, hs⟩ := kO_at hs
  obtain ⟨x316, h316, n316, y316, e316, hs⟩ := dI_at hs
  obtain ⟨c316, z316, hs⟩ := ck_at hs
  refine ev_callV C.1 (T_X11_thing _ _ _ _ _ _ _ e316) (ci := 11) rfl eo316 wc_X11_thing wm_L_24 wi_X11_thing ws_X11_thing wz_X11 hy_X11_thing ⟨(Nat.le_of_ble_eq_true rfl), (Nat.le_of_ble_eq_true rfl)⟩ ⟨c316, z316⟩ (Nat.le_of_ble_eq_true rfl) rfl dL_law_316 ?_
  refine ev_aload_n C.1 (x := .ref l2) rfl trivial dL_law_319 ?_
  refine ev_aload_n C.1 (x := .ref (aE + 5)) rfl trivial dL_law_320 ?_
  refine ev_iload C.1 rfl dL_law_321 ?_
  refine ev_iconst C.1 (v := 1) dL_law_323 (by decide) ?_
  refine ev_iadd C.1 dL_law_324 ?_
  obtain ⟨x325, e325, hs⟩ := aB hs
  refine ev_sX C.1 C.2 e325 dL_law_325 ?_
  obtain ⟨eo326, hs⟩ := kO_at hs
  obtain ⟨x326, h326, n326, y326, e326, hs⟩ := dI_at hs
  obtain ⟨c326, z326, hs⟩ := ck_at hs
  refine ev_callVW C.1 (T_X14_thing _ _ _ _ _ _ _ e326) (ci := 14) rfl eo326 wc_X14_thing wm_L_28 wi_X14_thing ws_X14_thing wz_X14 hy_X14_thing ⟨(Nat.le_of_ble_eq_true rfl), (Nat.le_of_ble_eq_true rfl)⟩ ⟨c326, z326⟩ (Nat.le_of_ble_eq_true rfl) rfl dL_law_326 ?_
  refine ev_icmp_eq C.1 (tgt := 1705) (by decide) dL_law_329 (fun q329 => ?_) (fun q329 => ?_)
  · replace hs := (if_pos q329).symm.trans hs
    exact (t_L_law_1705 C K23 hs)
  · replace hs := (if_neg q329).symm.trans hs
    obtain ⟨hw9, hc9, hz9⟩ := wE_at hs
    refine Ev.widen hc9 hz9 ?_
    have hs := hw9
    refine ev_iconst C.1 (v := 0) dL_law_332 (by decide) ?_
    obtain ⟨hz, rfl, rfl⟩ := rtZ_at hs
    exact ev_zret C.1 rfl hz rfl (Nat.le_refl _) (Nat.le_refl _) rfl dL_law_333
theorem t_L_law_236 (C : CxS p l s m args meth c B0 X L9 xs9) {k23 : Nat → Nat → Nat → Int32 → aH → Nat → Nat → aP} (K23 : ∀ (l1 : Nat) (l2 : Nat) (l3 : Nat) (l4 : Int32) (h : aH) (c9 z9 : Nat), k23 l1 l2 l3 l4 h c9 z9 = some (r, h', mc, ms) → Ev p l e { frames := 20, cells := mc, slots := ms, locals := 766 } s m args below meth c D B0 X ws0 r h' mc ms 7 c9 z9 23 [some (.ref (aE + 5)), some (.ref l1), some (.ref l2), some (.ref l3), some (.int l4), none, none] [] h) {l1 : Nat} {l2 : Nat} {l3 : Nat} {l4 : Int32} {h : aH} {c9 z9 : Nat} (hs : s_L_law_236 L9 xs9 k23 l1 l2 l3 l4 h c9 z9 = some (r, h', mc, ms)) : Ev p l e { frames := 20, cells := mc, slots := ms, locals := 766 } s m args below meth c D B0 X ws0 r h' mc ms 7 c9 z9 236 [some (.ref (aE + 5)), some (.ref l1), some (.ref l2), some (.ref l3), some (.int l4), none, none] [] h := by
  unfold s_L_law_236 at hs
  refine ev_aload_n C.1 (x := .ref l1) rfl trivial dL_law_236 ?_
  refine ev_aload_n C.1 (x := .ref (aE + 5)) rfl trivial dL_law_237 ?_
  refine ev_iload C.1 rfl dL_law_238 ?_
  refine ev_iconst C.1 (v := 1) dL_law_240 (by decide) ?_
  refine ev_iadd C.1 dL_law_241 ?_
  obtain ⟨x242, e242, hs⟩ := aB hs
  refine ev_sX C.1 C.2 e242 dL_law_242 ?_
  refine ev_aload_n C.1 (x := .ref (aE + 5)) rfl trivial dL_law_243 ?_
  refine ev_iload C.1 rfl dL_law_244 ?_
  refine ev_iconst C.1 (v := 2) dL_law_246 (by decide) ?_
  refine ev_iadd C.1 dL_law_247 ?_
  obtain ⟨x248, e248, hs⟩ := aB hs
  refine ev_sX C.1 C.2 e248 dL_law_248 ?_
  refine ev_aload_n C.1 (x := .ref (aE + 5)) rfl trivial dL_law_249 ?_
  refine ev_iload C.1 rfl dL_law_250 ?_
  refine ev_iconst C.1 (v := 3) dL_law_252 (by decide) ?_
  refine ev_iadd C.1 dL_law_253 ?_
  obtain ⟨x254, e254, hs⟩ := aB hs
  refine ev_sX C.1 C.2 e254 dL_law_254 ?_
  refine ev_aload_n C.1 (x := .ref (aE + 5)) rfl trivial dL_law_255 ?_
  refine ev_iload C.1 rfl dL_law_256 ?_
  refine ev_iconst C.1 (v := 4) dL_law_258 (by decide) ?_
  refine ev_iadd C.1 dL_law_259 ?_
  obtain ⟨x260, e260, hs⟩ := aB hs
  refine ev_sX C.1 C.2 e260 dL_law_260 ?_
  refine ev_aload_n C.1 (x := .ref (aE + 5)) rfl trivial dL_law_261 ?_
  refine ev_iload C.1 rfl dL_law_262 ?_
  refine ev_iconst C.1 (v := 5) dL_law_264 (by decide) ?_
  refine ev_iadd C.1 dL_law_265 ?_
  obtain ⟨x266, e266, hs⟩ := aB hs
  refine ev_sX C.1 C.2 e266 dL_law_266 ?_
  obtain ⟨eo267, hs⟩ := kO_at hs
  obtain ⟨x267, h267, e267, hs⟩ := cI_at hs
  obtain ⟨c267, z267, hs⟩ := ck_at hs
  refine ev_callV C.1 (T_X11_feed _ _ _ _ _ _ _ _ _ e267) (ci := 11) rfl eo267 wc_X11_feed wm_L_19 wi_X11_feed ws_X11_feed wz_X11 hy_X11_feed ⟨(Nat.le_of_ble_eq_true rfl), (Nat.le_of_ble_eq_true rfl)⟩ ⟨c267, z267⟩ (Nat.le_of_ble_eq_true rfl) rfl dL_law_267 ?_
  refine ev_aload_n C.1 (x := .ref l2) rfl trivial dL_law_270 ?_
  refine ev_aload_n C.1 (x := .ref (aE + 5)) rfl trivial dL_law_271 ?_
  refine ev_iload C.1 rfl dL_law_272 ?_
  refine ev_iconst C.1 (v := 1) dL_law_274 (by decide) ?_
  refine ev_iadd C.1 dL_law_275 ?_
  obtain ⟨x276, e276, hs⟩ := aB hs
  refine ev_sX C.1 C.2 e276 dL_law_276 ?_
  refine ev_aload_n C.1 (x := .ref (aE + 5)) rfl trivial dL_law_277 ?_
  refine ev_iload C.1 rfl dL_law_278 ?_
  refine ev_iconst C.1 (v := 2) dL_law_280 (by decide) ?_
  refine ev_iadd C.1 dL_law_281 ?_
  obtain ⟨x282, e282, hs⟩ := aB hs
  refine ev_sX C.1 C.2 e282 dL_law_282 ?_
  refine ev_aload_n C.1 (x := .ref (aE + 5)) rfl trivial dL_law_283 ?_
  refine ev_iload C.1 rfl dL_law_284 ?_
  refine ev_iconst C.1 (v := 3) dL_law_286 (by decide) ?_
  refine ev_iadd C.1 dL_law_287 ?_
  obtain ⟨x288, e288, hs⟩ := aB hs
  refine ev_sX C.1 C.2 e288 dL_law_288 ?_
  refine ev_aload_n C.1 (x := .ref (aE + 5)) rfl trivial dL_law_289 ?_
  refine ev_iload C.1 rfl dL_law_290 ?_
  refine ev_iconst C.1 (v := 4) dL_law_292 (by decide) ?_
  refine ev_iadd C.1 dL_law_293 ?_
  obtain ⟨x294, e294, hs⟩ := aB hs
  refine ev_sX C.1 C.2 e294 dL_law_294 ?_
  refine ev_aload_n C.1 (x := .ref (aE + 5)) rfl trivial dL_law_295 ?_
  refine ev_iload C.1 rfl dL_law_296 ?_
  refine ev_iconst C.1 (v := 5) dL_law_298 (by decide) ?_
  refine ev_iadd C.1 dL_law_299 ?_
  obtain ⟨x300, e300, hs⟩ := aB hs
  refine ev_sX C.1 C.2 e300 dL_law_300 ?_
  obtain ⟨eo301, hs⟩ := kO_at hs
  obtain ⟨x301, h301, e301, hs⟩ := cI_at hs
  obtain ⟨c301, z301, hs⟩ := ck_at hs
  refine ev_callV C.1 (T_X14_feed _ _ _ _ _ _ _ _ _ e301) (ci := 14) rfl eo301 wc_X14_feed wm_L_23 wi_X14_feed ws_X14_feed wz_X14 hy_X14_feed ⟨(Nat.le_of_ble_eq_true rfl), (Nat.le_of_ble_eq_true rfl)⟩ ⟨c301, z301⟩ (Nat.le_of_ble_eq_true rfl) rfl dL_law_301 ?_
  refine ev_icmp_eq C.1 (tgt := 1705) (by decide) dL_law_304 (fun q304 => ?_) (fun q304 => ?_)
  · replace hs := (if_pos q304).symm.trans hs
    exact (t_L_law_1705 C K23 hs)
  · replace hs := (if_neg q304).symm.trans hs
    obtain ⟨hw9, hc9, hz9⟩ := wE_at hs
    refine Ev.widen hc9 hz9 ?_
    have hs := hw9
    refine ev_iconst C.1 (v := 0) dL_law_307 (by decide) ?_
    obtain ⟨hz, rfl, rfl⟩ := rtZ_at hs
    exact ev_zret C.1 rfl hz rfl (Nat.le_refl _) (Nat.le_refl _) rfl dL_law_308
theorem t_L_law_23_b (C : CxS p l s m args meth c B0 X L9 xs9)   {k23 : Nat → Nat → Nat → Int32 → aH → Nat → Nat → aP} (K23 : ∀ (l1 : Nat) (l2 : Nat) (l3 : Nat) (l4 : Int32) (h : aH) (c9 z9 : Nat), k23 l1 l2 l3 l4 h c9 z9 = some (r, h', mc, ms) → Ev p l e { frames := 20, cells := mc, slots := ms, locals := 766 } s m args below meth c D B0 X ws0 r h' mc ms 7 c9 z9 23 [some (.ref (aE + 5)), some (.ref l1), some (.ref l2), some (.ref l3), some (.int l4), none, none] [] h) {l1 : Nat} {l2 : Nat} {l3 : Nat} {l4 : Int32} {h : aH} {c9 z9 : Nat} (hs : s_L_law_23_b L9 xs9  k23 l1 l2 l3 l4 h c9 z9 = some (r, h', mc, ms)) : Ev p l e { frames := 20, cells := mc, slots := ms, locals := 766 } s m args below meth c D B0 X ws0 r h' mc ms 7 c9 z9 23 [some (.ref (aE + 5)), some (.ref l1), some (.ref l2), some (.ref l3), some (.int l4), none, none] [] h := by
  unfold s_L_law_23_b at hs
  refine ev_iload C.1 rfl dL_law_23 ?_
  refine ev_aload_n C.1 (x := .ref (aE + 5)) rfl trivial dL_law_25 ?_
  refine ev_sL C.1 C.2 dL_law_26 ?_
  refine ev_bipush C.1 (v := 6) dL_law_27 (by decide) ?_
  refine ev_isub C.1 dL_law_29 ?_
  refine ev_icmp_gt C.1 (tgt := 1711) (by decide) dL_law_30 (fun q30 => ?_) (fun q30 => ?_)
  · replace hs := (if_pos q30).symm.trans hs
    obtain ⟨hw9, hc9, hz9⟩ := wE_at hs
    refine Ev.widen hc9 hz9 ?_
    have hs := hw9
    refine ev_iconst C.1 (v := 1) dL_law_1711 (by decide) ?_
    obtain ⟨hz, rfl, rfl⟩ := rtZ_at hs
    exact ev_zret C.1 rfl hz rfl (Nat.le_refl _) (Nat.le_refl _) rfl dL_law_1712
  · replace hs := (if_neg q30).symm.trans hs
    refine ev_aload_n C.1 (x := .ref (aE + 5)) rfl trivial dL_law_33 ?_
    refine ev_iload C.1 rfl dL_law_34 ?_
    obtain ⟨x36, e36, hs⟩ := aB hs
    refine ev_sX C.1 C.2 e36 dL_law_36 ?_
    refine ev_bipush C.1 (v := 63) dL_law_37 (by decide) ?_
    refine ev_iand C.1 dL_law_39 ?_
    by_cases q0 : (x36 &&& 63) = 0
    · replace hs := (if_pos q0).symm.trans hs
      refine ev_tblIn C.1 (tgt := 236) (by rw [q0]; decide) (by rw [q0]; decide) (by rw [q0]; rfl) (by decide) dL_law_40 ?_
      exact (t_L_law_236 C K23 hs)
    · replace hs := (if_neg q0).symm.trans hs
      by_cases q1 : (x36 &&& 63) = 1
      · replace hs := (if_pos q1).symm.trans hs
        refine ev_tblIn C.1 (tgt := 309) (by rw [q1]; decide) (by rw [q1]; decide) (by rw [q1]; rfl) (by decide) dL_law_40 ?_
        exact (t_L_law_309 C K23 hs)
      · replace hs := (if_neg q1).symm.trans hs
        by_cases q2 : (x36 &&& 63) = 2
        · replace hs := (if_pos q2).symm.trans hs
          refine ev_tblIn C.1 (tgt := 334) (by rw [q2]; decide) (by rw [q2]; decide) (by rw [q2]; rfl) (by decide) dL_law_40 ?_
          exact (t_L_law_334 C K23 hs)
        · replace hs := (if_neg q2).symm.trans hs
          by_cases q3 : (x36 &&& 63) = 3
          · replace hs := (if_pos q3).symm.trans hs
            refine ev_tblIn C.1 (tgt := 359) (by rw [q3]; decide) (by rw [q3]; decide) (by rw [q3]; rfl) (by decide) dL_law_40 ?_
            exact (t_L_law_359 C K23 hs)
          · replace hs := (if_neg q3).symm.trans hs
            by_cases q4 : (x36 &&& 63) = 4
            · replace hs := (if_pos q4).symm.trans hs
              refine ev_tblIn C.1 (tgt := 384) (by rw [q4]; decide) (by rw [q4]; decide) (by rw [q4]; rfl) (by decide) dL_law_40 ?_
              exact (t_L_law_384 C K23 hs)
            · replace hs := (if_neg q4).symm.trans hs
              by_cases q5 : (x36 &&& 63) = 5
              · replace hs := (if_pos q5).symm.trans hs
                refine ev_tblIn C.1 (tgt := 409) (by rw [q5]; decide) (by rw [q5]; decide) (by rw [q5]; rfl) (by decide) dL_law_40 ?_
                exact (t_L_law_409 C K23 hs)
              · replace hs := (if_neg q5).symm.trans hs
                by_cases q6 : (x36 &&& 63) = 6
                · replace hs := (if_pos q6).symm.trans hs
                  refine ev_tblIn C.1 (tgt := 422) (by rw [q6]; decide) (by rw [q6]; decide) (by rw [q6]; rfl) (by decide) dL_law_40 ?_
                  exact (t_L_law_422 C K23 hs)
                · replace hs := (if_neg q6).symm.trans hs
                  by_cases q7 : (x36 &&& 63) = 7
                  · replace hs := (if_pos q7).symm.trans hs
                    refine ev_tblIn C.1 (tgt := 435) (by rw [q7]; decide) (by rw [q7]; decide) (by rw [q7]; rfl) (by decide) dL_law_40 ?_
                    exact (t_L_law_435 C K23 hs)
                  · replace hs := (if_neg q7).symm.trans hs
                    by_cases q8 : (x36 &&& 63) = 8
                    · replace hs := (if_pos q8).symm.trans hs
                      refine ev_tblIn C.1 (tgt := 460) (by rw [q8]; decide) (by rw [q8]; decide) (by rw [q8]; rfl) (by decide) dL_law_40 ?_
                      exact (t_L_law_460 C K23 hs)
                    · replace hs := (if_neg q8).symm.trans hs
                      by_cases q9 : (x36 &&& 63) = 9
                      · replace hs := (if_pos q9).symm.trans hs
                        refine ev_tblIn C.1 (tgt := 509) (by rw [q9]; decide) (by rw [q9]; decide) (by rw [q9]; rfl) (by decide) dL_law_40 ?_
                        exact (t_L_law_509 C K23 hs)
                      · replace hs := (if_neg q9).symm.trans hs
                        by_cases q10 : (x36 &&& 63) = 10
                        · replace hs := (if_pos q10).symm.trans hs
                          refine ev_tblIn C.1 (tgt := 546) (by rw [q10]; decide) (by rw [q10]; decide) (by rw [q10]; rfl) (by decide) dL_law_40 ?_
                          exact (t_L_law_546 C K23 hs)
                        · replace hs := (if_neg q10).symm.trans hs
                          by_cases q11 : (x36 &&& 63) = 11
                          · replace hs := (if_pos q11).symm.trans hs
                            refine ev_tblIn C.1 (tgt := 583) (by rw [q11]; decide) (by rw [q11]; decide) (by rw [q11]; rfl) (by decide) dL_law_40 ?_
                            exact (t_L_law_583 C K23 hs)
                          · replace hs := (if_neg q11).symm.trans hs
                            by_cases q12 : (x36 &&& 63) = 12
                            · replace hs := (if_pos q12).symm.trans hs
                              refine ev_tblIn C.1 (tgt := 632) (by rw [q12]; decide) (by rw [q12]; decide) (by rw [q12]; rfl) (by decide) dL_law_40 ?_
                              exact (t_L_law_632 C K23 hs)
                            · replace hs := (if_neg q12).symm.trans hs
                              by_cases q13 : (x36 &&& 63) = 13
                              · replace hs := (if_pos q13).symm.trans hs
                                refine ev_tblIn C.1 (tgt := 693) (by rw [q13]; decide) (by rw [q13]; decide) (by rw [q13]; rfl) (by decide) dL_law_40 ?_
                                exact (t_L_law_693 C K23 hs)
                              · replace hs := (if_neg q13).symm.trans hs
                                by_cases q14 : (x36 &&& 63) = 14
                                · replace hs := (if_pos q14).symm.trans hs
                                  refine ev_tblIn C.1 (tgt := 706) (by rw [q14]; decide) (by rw [q14]; decide) (by rw [q14]; rfl) (by decide) dL_law_40 ?_
                                  exact (t_L_law_706 C K23 hs)
                                · replace hs := (if_neg q14).symm.trans hs
                                  by_cases q15 : (x36 &&& 63) = 15
                                  · replace hs := (if_pos q15).symm.trans hs
                                    refine ev_tblIn C.1 (tgt := 731) (by rw [q15]; decide) (by rw [q15]; decide) (by rw [q15]; rfl) (by decide) dL_law_40 ?_
                                    exact (t_L_law_731 C K23 hs)
                                  · replace hs := (if_neg q15).symm.trans hs
                                    by_cases q16 : (x36 &&& 63) = 16
                                    · replace hs := (if_pos q16).symm.trans hs
                                      refine ev_tblIn C.1 (tgt := 756) (by rw [q16]; decide) (by rw [q16]; decide) (by rw [q16]; rfl) (by decide) dL_law_40 ?_
                                      exact (t_L_law_756 C K23 hs)
                                    · replace hs := (if_neg q16).symm.trans hs
                                      by_cases q17 : (x36 &&& 63) = 17
                                      · replace hs := (if_pos q17).symm.trans hs
                                        refine ev_tblIn C.1 (tgt := 781) (by rw [q17]; decide) (by rw [q17]; decide) (by rw [q17]; rfl) (by decide) dL_law_40 ?_
                                        exact (t_L_law_781 C K23 hs)
                                      · replace hs := (if_neg q17).symm.trans hs
                                        by_cases q18 : (x36 &&& 63) = 18
                                        · replace hs := (if_pos q18).symm.trans hs
                                          refine ev_tblIn C.1 (tgt := 806) (by rw [q18]; decide) (by rw [q18]; decide) (by rw [q18]; rfl) (by decide) dL_law_40 ?_
                                          exact (t_L_law_806 C K23 hs)
                                        · replace hs := (if_neg q18).symm.trans hs
                                          by_cases q19 : (x36 &&& 63) = 19
                                          · replace hs := (if_pos q19).symm.trans hs
                                            refine ev_tblIn C.1 (tgt := 843) (by rw [q19]; decide) (by rw [q19]; decide) (by rw [q19]; rfl) (by decide) dL_law_40 ?_
                                            exact (t_L_law_843 C K23 hs)
                                          · replace hs := (if_neg q19).symm.trans hs
                                            by_cases q20 : (x36 &&& 63) = 20
                                            · replace hs := (if_pos q20).symm.trans hs
                                              refine ev_tblIn C.1 (tgt := 880) (by rw [q20]; decide) (by rw [q20]; decide) (by rw [q20]; rfl) (by decide) dL_law_40 ?_
                                              exact (t_L_law_880 C K23 hs)
                                            · replace hs := (if_neg q20).symm.trans hs
                                              by_cases q21 : (x36 &&& 63) = 21
                                              · replace hs := (if_pos q21).symm.trans hs
                                                refine ev_tblIn C.1 (tgt := 960) (by rw [q21]; decide) (by rw [q21]; decide) (by rw [q21]; rfl) (by decide) dL_law_40 ?_
                                                exact (t_L_law_960 C K23 hs)
                                              · replace hs := (if_neg q21).symm.trans hs
                                                by_cases q22 : (x36 &&& 63) = 22
                                                · replace hs := (if_pos q22).symm.trans hs
                                                  refine ev_tblIn C.1 (tgt := 985) (by rw [q22]; decide) (by rw [q22]; decide) (by rw [q22]; rfl) (by decide) dL_law_40 ?_
                                                  exact (t_L_law_985 C K23 hs)
                                                · replace hs := (if_neg q22).symm.trans hs
                                                  by_cases q23 : (x36 &&& 63) = 23
                                                  · replace hs := (if_pos q23).symm.trans hs
                                                    refine ev_tblIn C.1 (tgt := 1026) (by rw [q23]; decide) (by rw [q23]; decide) (by rw [q23]; rfl) (by decide) dL_law_40 ?_
                                                    exact (t_L_law_1026 C K23 hs)
                                                  · replace hs := (if_neg q23).symm.trans hs
                                                    by_cases q24 : (x36 &&& 63) = 24
                                                    · replace hs := (if_pos q24).symm.trans hs
                                                      refine ev_tblIn C.1 (tgt := 1051) (by rw [q24]; decide) (by rw [q24]; decide) (by rw [q24]; rfl) (by decide) dL_law_40 ?_
                                                      exact (t_L_law_1051 C K23 hs)
                                                    · replace hs := (if_neg q24).symm.trans hs
                                                      by_cases q25 : (x36 &&& 63) = 25
                                                      · replace hs := (if_pos q25).symm.trans hs
                                                        refine ev_tblIn C.1 (tgt := 1100) (by rw [q25]; decide) (by rw [q25]; decide) (by rw [q25]; rfl) (by decide) dL_law_40 ?_
                                                        exact (t_L_law_1100 C K23 hs)
                                                      · replace hs := (if_neg q25).symm.trans hs
                                                        by_cases q26 : (x36 &&& 63) = 26
                                                        · replace hs := (if_pos q26).symm.trans hs
                                                          refine ev_tblIn C.1 (tgt := 1154) (by rw [q26]; decide) (by rw [q26]; decide) (by rw [q26]; rfl) (by decide) dL_law_40 ?_
                                                          exact (t_L_law_1154 C K23 hs)
                                                        · replace hs := (if_neg q26).symm.trans hs
                                                          by_cases q27 : (x36 &&& 63) = 27
                                                          · replace hs := (if_pos q27).symm.trans hs
                                                            refine ev_tblIn C.1 (tgt := 1215) (by rw [q27]; decide) (by rw [q27]; decide) (by rw [q27]; rfl) (by decide) dL_law_40 ?_
                                                            exact (t_L_law_1215 C K23 hs)
                                                          · replace hs := (if_neg q27).symm.trans hs
                                                            by_cases q28 : (x36 &&& 63) = 28
                                                            · replace hs := (if_pos q28).symm.trans hs
                                                              refine ev_tblIn C.1 (tgt := 1240) (by rw [q28]; decide) (by rw [q28]; decide) (by rw [q28]; rfl) (by decide) dL_law_40 ?_
                                                              exact (t_L_law_1240 C K23 hs)
                                                            · replace hs := (if_neg q28).symm.trans hs
                                                              by_cases q29 : (x36 &&& 63) = 29
                                                              · replace hs := (if_pos q29).symm.trans hs
                                                                refine ev_tblIn C.1 (tgt := 1289) (by rw [q29]; decide) (by rw [q29]; decide) (by rw [q29]; rfl) (by decide) dL_law_40 ?_
                                                                exact (t_L_law_1289 C K23 hs)
                                                              · replace hs := (if_neg q29).symm.trans hs
                                                                by_cases q30 : (x36 &&& 63) = 30
                                                                · replace hs := (if_pos q30).symm.trans hs
                                                                  refine ev_tblIn C.1 (tgt := 1314) (by rw [q30]; decide) (by rw [q30]; decide) (by rw [q30]; rfl) (by decide) dL_law_40 ?_
                                                                  exact (t_L_law_1314 C K23 hs)
                                                                · replace hs := (if_neg q30).symm.trans hs
                                                                  by_cases q31 : (x36 &&& 63) = 31
                                                                  · replace hs := (if_pos q31).symm.trans hs
                                                                    refine ev_tblIn C.1 (tgt := 1339) (by rw [q31]; decide) (by rw [q31]; decide) (by rw [q31]; rfl) (by decide) dL_law_40 ?_
                                                                    exact (t_L_law_1339 C K23 hs)
                                                                  · replace hs := (if_neg q31).symm.trans hs
                                                                    by_cases q32 : (x36 &&& 63) = 32
                                                                    · replace hs := (if_pos q32).symm.trans hs
                                                                      refine ev_tblIn C.1 (tgt := 1392) (by rw [q32]; decide) (by rw [q32]; decide) (by rw [q32]; rfl) (by decide) dL_law_40 ?_
                                                                      exact (t_L_law_1392 C K23 hs)
                                                                    · replace hs := (if_neg q32).symm.trans hs
                                                                      by_cases q33 : (x36 &&& 63) = 33
                                                                      · replace hs := (if_pos q33).symm.trans hs
                                                                        refine ev_tblIn C.1 (tgt := 1405) (by rw [q33]; decide) (by rw [q33]; decide) (by rw [q33]; rfl) (by decide) dL_law_40 ?_
                                                                        exact (t_L_law_1405 C K23 hs)
                                                                      · replace hs := (if_neg q33).symm.trans hs
                                                                        by_cases q34 : (x36 &&& 63) = 34
                                                                        · replace hs := (if_pos q34).symm.trans hs
                                                                          refine ev_tblIn C.1 (tgt := 1430) (by rw [q34]; decide) (by rw [q34]; decide) (by rw [q34]; rfl) (by decide) dL_law_40 ?_
                                                                          exact (t_L_law_1430 C K23 hs)
                                                                        · replace hs := (if_neg q34).symm.trans hs
                                                                          by_cases q35 : (x36 &&& 63) = 35
                                                                          · replace hs := (if_pos q35).symm.trans hs
                                                                            refine ev_tblIn C.1 (tgt := 1443) (by rw [q35]; decide) (by rw [q35]; decide) (by rw [q35]; rfl) (by decide) dL_law_40 ?_
                                                                            exact (t_L_law_1443 C K23 hs)
                                                                          · replace hs := (if_neg q35).symm.trans hs
                                                                            by_cases q36 : (x36 &&& 63) = 36
                                                                            · replace hs := (if_pos q36).symm.trans hs
                                                                              refine ev_tblIn C.1 (tgt := 1468) (by rw [q36]; decide) (by rw [q36]; decide) (by rw [q36]; rfl) (by decide) dL_law_40 ?_
                                                                              exact (t_L_law_1468 C K23 hs)
                                                                            · replace hs := (if_neg q36).symm.trans hs
                                                                              by_cases q37 : (x36 &&& 63) = 37
                                                                              · replace hs := (if_pos q37).symm.trans hs
                                                                                refine ev_tblIn C.1 (tgt := 1481) (by rw [q37]; decide) (by rw [q37]; decide) (by rw [q37]; rfl) (by decide) dL_law_40 ?_
                                                                                exact (t_L_law_1481 C K23 hs)
                                                                              · replace hs := (if_neg q37).symm.trans hs
                                                                                by_cases q38 : (x36 &&& 63) = 38
                                                                                · replace hs := (if_pos q38).symm.trans hs
                                                                                  refine ev_tblIn C.1 (tgt := 1554) (by rw [q38]; decide) (by rw [q38]; decide) (by rw [q38]; rfl) (by decide) dL_law_40 ?_
                                                                                  exact (t_L_law_1554 C K23 hs)
                                                                                · replace hs := (if_neg q38).symm.trans hs
                                                                                  by_cases q39 : (x36 &&& 63) = 39
                                                                                  · replace hs := (if_pos q39).symm.trans hs
                                                                                    refine ev_tblIn C.1 (tgt := 1579) (by rw [q39]; decide) (by rw [q39]; decide) (by rw [q39]; rfl) (by decide) dL_law_40 ?_
                                                                                    exact (t_L_law_1579 C K23 hs)
                                                                                  · replace hs := (if_neg q39).symm.trans hs
                                                                                    by_cases q40 : (x36 &&& 63) = 40
                                                                                    · replace hs := (if_pos q40).symm.trans hs
                                                                                      refine ev_tblIn C.1 (tgt := 1592) (by rw [q40]; decide) (by rw [q40]; decide) (by rw [q40]; rfl) (by decide) dL_law_40 ?_
                                                                                      exact (t_L_law_1592 C K23 hs)
                                                                                    · replace hs := (if_neg q40).symm.trans hs
                                                                                      by_cases q41 : (x36 &&& 63) = 41
                                                                                      · replace hs := (if_pos q41).symm.trans hs
                                                                                        refine ev_tblIn C.1 (tgt := 1617) (by rw [q41]; decide) (by rw [q41]; decide) (by rw [q41]; rfl) (by decide) dL_law_40 ?_
                                                                                        exact (t_L_law_1617 C K23 hs)
                                                                                      · replace hs := (if_neg q41).symm.trans hs
                                                                                        by_cases q42 : (x36 &&& 63) = 42
                                                                                        · replace hs := (if_pos q42).symm.trans hs
                                                                                          refine ev_tblIn C.1 (tgt := 1654) (by rw [q42]; decide) (by rw [q42]; decide) (by rw [q42]; rfl) (by decide) dL_law_40 ?_
                                                                                          exact (t_L_law_1654 C K23 hs)
                                                                                        · replace hs := (if_neg q42).symm.trans hs
                                                                                          by_cases q43 : (x36 &&& 63) = 43
                                                                                          · replace hs := (if_pos q43).symm.trans hs
                                                                                            refine ev_tblIn C.1 (tgt := 1679) (by rw [q43]; decide) (by rw [q43]; decide) (by rw [q43]; rfl) (by decide) dL_law_40 ?_
                                                                                            exact (t_L_law_1679 C K23 hs)
                                                                                          · replace hs := (if_neg q43).symm.trans hs
                                                                                            by_cases q44 : (x36 &&& 63) = 44
                                                                                            · replace hs := (if_pos q44).symm.trans hs
                                                                                              refine ev_tblIn C.1 (tgt := 1692) (by rw [q44]; decide) (by rw [q44]; decide) (by rw [q44]; rfl) (by decide) dL_law_40 ?_
                                                                                              exact (t_L_law_1692 C K23 hs)
                                                                                            · replace hs := (if_neg q44).symm.trans hs
                                                                                              have n0 : Int32.toInt (x36 &&& 63) ≠ 0 := fun z => q0 (Int32.toInt_inj.mp (z.trans (by decide)))
                                                                                              have n1 : Int32.toInt (x36 &&& 63) ≠ 1 := fun z => q1 (Int32.toInt_inj.mp (z.trans (by decide)))
                                                                                              have n2 : Int32.toInt (x36 &&& 63) ≠ 2 := fun z => q2 (Int32.toInt_inj.mp (z.trans (by decide)))
                                                                                              have n3 : Int32.toInt (x36 &&& 63) ≠ 3 := fun z => q3 (Int32.toInt_inj.mp (z.trans (by decide)))
                                                                                              have n4 : Int32.toInt (x36 &&& 63) ≠ 4 := fun z => q4 (Int32.toInt_inj.mp (z.trans (by decide)))
                                                                                              have n5 : Int32.toInt (x36 &&& 63) ≠ 5 := fun z => q5 (Int32.toInt_inj.mp (z.trans (by decide)))
                                                                                              have n6 : Int32.toInt (x36 &&& 63) ≠ 6 := fun z => q6 (Int32.toInt_inj.mp (z.trans (by decide)))
                                                                                              have n7 : Int32.toInt (x36 &&& 63) ≠ 7 := fun z => q7 (Int32.toInt_inj.mp (z.trans (by decide)))
                                                                                              have n8 : Int32.toInt (x36 &&& 63) ≠ 8 := fun z => q8 (Int32.toInt_inj.mp (z.trans (by decide)))
                                                                                              have n9 : Int32.toInt (x36 &&& 63) ≠ 9 := fun z => q9 (Int32.toInt_inj.mp (z.trans (by decide)))
                                                                                              have n10 : Int32.toInt (x36 &&& 63) ≠ 10 := fun z => q10 (Int32.toInt_inj.mp (z.trans (by decide)))
                                                                                              have n11 : Int32.toInt (x36 &&& 63) ≠ 11 := fun z => q11 (Int32.toInt_inj.mp (z.trans (by decide)))
                                                                                              have n12 : Int32.toInt (x36 &&& 63) ≠ 12 := fun z => q12 (Int32.toInt_inj.mp (z.trans (by decide)))
                                                                                              have n13 : Int32.toInt (x36 &&& 63) ≠ 13 := fun z => q13 (Int32.toInt_inj.mp (z.trans (by decide)))
                                                                                              have n14 : Int32.toInt (x36 &&& 63) ≠ 14 := fun z => q14 (Int32.toInt_inj.mp (z.trans (by decide)))
                                                                                              have n15 : Int32.toInt (x36 &&& 63) ≠ 15 := fun z => q15 (Int32.toInt_inj.mp (z.trans (by decide)))
                                                                                              have n16 : Int32.toInt (x36 &&& 63) ≠ 16 := fun z => q16 (Int32.toInt_inj.mp (z.trans (by decide)))
                                                                                              have n17 : Int32.toInt (x36 &&& 63) ≠ 17 := fun z => q17 (Int32.toInt_inj.mp (z.trans (by decide)))
                                                                                              have n18 : Int32.toInt (x36 &&& 63) ≠ 18 := fun z => q18 (Int32.toInt_inj.mp (z.trans (by decide)))
                                                                                              have n19 : Int32.toInt (x36 &&& 63) ≠ 19 := fun z => q19 (Int32.toInt_inj.mp (z.trans (by decide)))
                                                                                              have n20 : Int32.toInt (x36 &&& 63) ≠ 20 := fun z => q20 (Int32.toInt_inj.mp (z.trans (by decide)))
                                                                                              have n21 : Int32.toInt (x36 &&& 63) ≠ 21 := fun z => q21 (Int32.toInt_inj.mp (z.trans (by decide)))
                                                                                              have n22 : Int32.toInt (x36 &&& 63) ≠ 22 := fun z => q22 (Int32.toInt_inj.mp (z.trans (by decide)))
                                                                                              have n23 : Int32.toInt (x36 &&& 63) ≠ 23 := fun z => q23 (Int32.toInt_inj.mp (z.trans (by decide)))
                                                                                              have n24 : Int32.toInt (x36 &&& 63) ≠ 24 := fun z => q24 (Int32.toInt_inj.mp (z.trans (by decide)))
                                                                                              have n25 : Int32.toInt (x36 &&& 63) ≠ 25 := fun z => q25 (Int32.toInt_inj.mp (z.trans (by decide)))
                                                                                              have n26 : Int32.toInt (x36 &&& 63) ≠ 26 := fun z => q26 (Int32.toInt_inj.mp (z.trans (by decide)))
                                                                                              have n27 : Int32.toInt (x36 &&& 63) ≠ 27 := fun z => q27 (Int32.toInt_inj.mp (z.trans (by decide)))
                                                                                              have n28 : Int32.toInt (x36 &&& 63) ≠ 28 := fun z => q28 (Int32.toInt_inj.mp (z.trans (by decide)))
                                                                                              have n29 : Int32.toInt (x36 &&& 63) ≠ 29 := fun z => q29 (Int32.toInt_inj.mp (z.trans (by decide)))
                                                                                              have n30 : Int32.toInt (x36 &&& 63) ≠ 30 := fun z => q30 (Int32.toInt_inj.mp (z.trans (by decide)))
                                                                                              have n31 : Int32.toInt (x36 &&& 63) ≠ 31 := fun z => q31 (Int32.toInt_inj.mp (z.trans (by decide)))
                                                                                              have n32 : Int32.toInt (x36 &&& 63) ≠ 32 := fun z => q32 (Int32.toInt_inj.mp (z.trans (by decide)))
                                                                                              have n33 : Int32.toInt (x36 &&& 63) ≠ 33 := fun z => q33 (Int32.toInt_inj.mp (z.trans (by decide)))
                                                                                              have n34 : Int32.toInt (x36 &&& 63) ≠ 34 := fun z => q34 (Int32.toInt_inj.mp (z.trans (by decide)))
                                                                                              have n35 : Int32.toInt (x36 &&& 63) ≠ 35 := fun z => q35 (Int32.toInt_inj.mp (z.trans (by decide)))
                                                                                              have n36 : Int32.toInt (x36 &&& 63) ≠ 36 := fun z => q36 (Int32.toInt_inj.mp (z.trans (by decide)))
                                                                                              have n37 : Int32.toInt (x36 &&& 63) ≠ 37 := fun z => q37 (Int32.toInt_inj.mp (z.trans (by decide)))
                                                                                              have n38 : Int32.toInt (x36 &&& 63) ≠ 38 := fun z => q38 (Int32.toInt_inj.mp (z.trans (by decide)))
                                                                                              have n39 : Int32.toInt (x36 &&& 63) ≠ 39 := fun z => q39 (Int32.toInt_inj.mp (z.trans (by decide)))
                                                                                              have n40 : Int32.toInt (x36 &&& 63) ≠ 40 := fun z => q40 (Int32.toInt_inj.mp (z.trans (by decide)))
                                                                                              have n41 : Int32.toInt (x36 &&& 63) ≠ 41 := fun z => q41 (Int32.toInt_inj.mp (z.trans (by decide)))
                                                                                              have n42 : Int32.toInt (x36 &&& 63) ≠ 42 := fun z => q42 (Int32.toInt_inj.mp (z.trans (by decide)))
                                                                                              have n43 : Int32.toInt (x36 &&& 63) ≠ 43 := fun z => q43 (Int32.toInt_inj.mp (z.trans (by decide)))
                                                                                              have n44 : Int32.toInt (x36 &&& 63) ≠ 44 := fun z => q44 (Int32.toInt_inj.mp (z.trans (by decide)))
                                                                                              refine ev_tblOut C.1 (tgt := 1705) (by omega) (by decide) dL_law_40 ?_
                                                                                              exact (t_L_law_1705 C K23 hs)
theorem t_L_law_23 (C : CxS p l s m args meth c B0 X L9 xs9)   : ∀ (n : Nat) {l1 : Nat} {l2 : Nat} {l3 : Nat} {l4 : Int32} {h : aH} {c9 z9 : Nat} (hs : s_L_law_23 L9 xs9  n l1 l2 l3 l4 h c9 z9 = some (r, h', mc, ms)), Ev p l e { frames := 20, cells := mc, slots := ms, locals := 766 } s m args below meth c D B0 X ws0 r h' mc ms 7 c9 z9 23 [some (.ref (aE + 5)), some (.ref l1), some (.ref l2), some (.ref l3), some (.int l4), none, none] [] h
  | 0, _, _, _, _, _, _, _, hs => nomatch hs
  | n + 1, _, _, _, _, _, _, _, hs => t_L_law_23_b C  (k23 := s_L_law_23 L9 xs9  n) (fun _ _ _ _ _ _ _ hs => t_L_law_23 C  n hs) hs
theorem T_L_law (C : CxS p l s m args meth c B0 X L9 xs9) {h : aH} (hs : s_L_law L9 xs9 h = some (r, h', mc, ms)) : Ev p l e { frames := 20, cells := mc, slots := ms, locals := 766 } s m args below meth c D B0 X ws0 r h' mc ms 7 0 0 0 [some (.ref (aE + 5)), none, none, none, none, none, none] [] h := by
  unfold s_L_law at hs
  obtain ⟨o0, h0, e0, hs⟩ := bP_at hs
  obtain ⟨c0, z0, hs⟩ := ck_at hs
  refine ev_new C.1 (ci := 11) rfl wu_11 tyX11 tyX11_ok wk_L_8 wj_X11 wz_X11 dfX11_ok dfX11_se e0 c0 z0 dL_law_0 ?_
  refine ev_dup C.1 rfl dL_law_3 ?_
  obtain ⟨h4, n4, y4, e4, hs⟩ := dN_at hs
  obtain ⟨c4, z4, hs⟩ := ck_at hs
  refine ev_callI C.1 (T_X11_init _ _ _ _ _ _ e4) wc_X11_init wm_L_15 wi_X11_init wz_X11 rfl hy_X11_init ⟨(Nat.le_of_ble_eq_true rfl), (Nat.le_of_ble_eq_true rfl)⟩ ⟨c4, z4⟩ (Nat.le_of_ble_eq_true rfl) rfl dL_law_4 ?_
  refine ev_astore_n C.1 (x := .ref o0) trivial (by decide) dL_law_7 ?_
  obtain ⟨o8, h8, e8, hs⟩ := bP_at hs
  obtain ⟨c8, z8, hs⟩ := ck_at hs
  refine ev_new C.1 (ci := 14) rfl wu_14 tyX14 tyX14_ok wk_L_16 wj_X14 wz_X14 dfX14_ok dfX14_se e8 c8 z8 dL_law_8 ?_
  refine ev_dup C.1 rfl dL_law_11 ?_
  obtain ⟨h12, n12, y12, e12, hs⟩ := dN_at hs
  obtain ⟨c12, z12, hs⟩ := ck_at hs
  refine ev_callI C.1 (T_X14_init _ _ _ _ _ _ e12) wc_X14_init wm_L_18 wi_X14_init wz_X14 rfl hy_X14_init ⟨(Nat.le_of_ble_eq_true rfl), (Nat.le_of_ble_eq_true rfl)⟩ ⟨c12, z12⟩ (Nat.le_of_ble_eq_true rfl) rfl dL_law_12 ?_
  refine ev_astore_n C.1 (x := .ref o8) trivial (by decide) dL_law_15 ?_
  refine ev_iconst C.1 (v := 1) dL_law_16 (by decide) ?_
  obtain ⟨o17, h17, e17, hs⟩ := bP_at hs
  obtain ⟨c17, z17, hs⟩ := ck_at hs
  refine ev_newa C.1 (atype := .long) (ty := .long) rfl wa_long (fun _ _ => rfl) e17 c17 z17 dL_law_17 ?_
  refine ev_astore_n C.1 (x := .ref o17) trivial (by decide) dL_law_19 ?_
  refine ev_iconst C.1 (v := 0) dL_law_20 (by decide) ?_
  refine ev_istore C.1 (by decide) dL_law_21 ?_
  exact (t_L_law_23 C  FU hs)
end
