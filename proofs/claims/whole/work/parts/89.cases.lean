section LD
variable {p : Program} {l : Launch} {e : Env} {s : State} {m : MethodId} {args : Array Value} {below : List Frame} {meth : Method} {c : Code} {G : gT} {ad0 : Nat → Nat} {M0 : pM} {A : Nat → Prop} {Z : State → Prop} {N : Nat} {xs : Nat → Int32}
theorem cs_begin {i B m9 bc bs : Nat} {J : Nat → Nat → Int64} {V : Mem} {q : LSt} (F : SC N xs s G A) (hi : i + 6 ≤ N) (hN : N ≤ 3072) (I : clS V q) (R : rfS V q) (hB : bddL q.2.2.1 B) (hB9 : B ≤ 1000000000) (hbc : 10 * m9 + 10 ≤ bc) (hbs : 60 * m9 + 60 ≤ bs) (K : ∀ (J' : Nat → Nat → Int64) (V' : Mem) (q' : LSt) (bc' bs' : Nat), clS V' q' → rfS V' q' → bddL q'.2.2.1 (B + 400000) → 10 * m9 ≤ bc' → 60 * m9 ≤ bs' → WLs p l e s m args below meth c G ad0 M0 A Z mL_law 2129 (Ln i) [] (T0 J', V') bc' bs') : WLs p l e s m args below meth c G ad0 M0 A Z mL_law 180 (Ln i) [] (T0 J, V) bc bs := by
  have op := op_begin q I.1.2 (xs (i + 1)) (xs (i + 2)) (xs (i + 3))
  refine q_aload_n (x := 0) dL_law_180 rfl (q_arg (j := 1) F hi hN (by decide) dL_law_181 dL_law_182 dL_law_184 dL_law_185 dL_law_186 rfl rfl (q_arg (j := 2) F hi hN (by decide) dL_law_187 dL_law_188 dL_law_190 dL_law_191 dL_law_192 rfl rfl (q_arg (j := 3) F hi hN (by decide) dL_law_193 dL_law_194 dL_law_196 dL_law_197 dL_law_198 rfl rfl (q_aload_n (x := 427) dL_law_199 rfl (q_callSW (As := [.ref 0, .int (xs (i + 1)), .int (xs (i + 2)), .int (xs (i + 3)), .ref 427]) (st := []) pL_begin rfl (TBg_of (w := Cond.methodLink (fC 9) 114 yL_begin) (i := 465) (by decide +kernel) (by decide +kernel)) (TBg_of (w := Cond.static yL_begin) (i := 466) (by decide +kernel) (by decide +kernel)) dL_law_200 (by unfold rmP; decide) rfl (show 0 ≤ 8 by decide) (show 4 ≤ bc by omega) (show 24 ≤ bs by omega) (w_begin _ _ _ _ (op.1 J V I R)) (fun v M' hv => ?_) (fun E M' z => z.elim))))))
  obtain ⟨T', V'⟩ := M'
  obtain ⟨rfl, hk, J', hT, ⟨c1, r1⟩, hJ⟩ := hv
  dsimp only at hT c1 r1
  subst hT
  refine ⟨rOK_same, ?_⟩
  refine q_ist (L' := (5, .int (nI _)) :: Ln i) dL_law_203 (by decide) rfl ?_
  refine q_aload_n (x := 405) dL_law_205 rfl (q_arg (j := 1) F hi hN (by decide) dL_law_206 dL_law_207 dL_law_209 dL_law_210 dL_law_211 rfl rfl (q_arg (j := 2) F hi hN (by decide) dL_law_212 dL_law_213 dL_law_215 dL_law_216 dL_law_217 rfl rfl (q_arg (j := 3) F hi hN (by decide) dL_law_218 dL_law_219 dL_law_221 dL_law_222 dL_law_223 rfl rfl (q_callV (h := 405) (As := [.int (xs (i + 1)), .int (xs (i + 2)), .int (xs (i + 3))]) (st := []) iv_9_119 dL_law_224 (by unfold rmP; decide) rfl (show 0 ≤ 8 by decide) (Nat.zero_le _) (Nat.zero_le _) (show 405 < 428 by decide) rfl (op.2.1 J' V' c1 r1) (fun v M' hv => ?_) (fun E M' z => z.2.elim)))))
  obtain ⟨T', V''⟩ := M'
  obtain ⟨hT, ⟨z, rfl, hz⟩, hth, c2, r2⟩ := hv
  dsimp only at hT hth c2 r2
  subst hT
  refine ⟨rOK_same, ?_⟩
  refine q_ist (L' := (6, .int z) :: (5, .int (nI _)) :: Ln i) dL_law_227 (by decide) rfl ?_
  have fin : ∀ k9 : Nat, WLs p l e s m args below meth c G ad0 M0 A Z mL_law 257 ((6, .int z) :: (5, .int (nI k9)) :: Ln i) [] (T0 J', V'') (bc - 4) (bs - 24) := fun k9 => q_goto (tgt := 2129) dL_law_257 rfl (q_loc (fun r hr => List.mem_cons_of_mem _ (List.mem_cons_of_mem _ hr)) (K J' V'' _ _ _ c2 r2 (op.2.2 B hB) (by omega) (by omega)))
  exact law_tail dL_law_229 dL_law_230 dL_law_233 dL_law_235 dL_law_240 dL_law_242 rfl rfl rfl hk hth (fin _) (fun h0 => law_same dL_law_245 dL_law_246 dL_law_247 dL_law_248 dL_law_250 dL_law_251 dL_law_252 rfl rfl ((hJ h0).trans (by rw [hz h0])) (fin _))
theorem cs_raid {i B m9 bc bs : Nat} {J : Nat → Nat → Int64} {V : Mem} {q : LSt} (F : SC N xs s G A) (hi : i + 6 ≤ N) (hN : N ≤ 3072) (I : clS V q) (R : rfS V q) (hB : bddL q.2.2.1 B) (hB9 : B ≤ 1000000000) (hbc : 10 * m9 + 10 ≤ bc) (hbs : 60 * m9 + 60 ≤ bs) (K : ∀ (J' : Nat → Nat → Int64) (V' : Mem) (q' : LSt) (bc' bs' : Nat), clS V' q' → rfS V' q' → bddL q'.2.2.1 (B + 400000) → 10 * m9 ≤ bc' → 60 * m9 ≤ bs' → WLs p l e s m args below meth c G ad0 M0 A Z mL_law 2129 (Ln i) [] (T0 J', V') bc' bs') : WLs p l e s m args below meth c G ad0 M0 A Z mL_law 260 (Ln i) [] (T0 J, V) bc bs := by
  have op := op_raid q I.1.2 (xs (i + 1))
  refine q_aload_n (x := 0) dL_law_260 rfl (q_arg (j := 1) F hi hN (by decide) dL_law_261 dL_law_262 dL_law_264 dL_law_265 dL_law_266 rfl rfl (q_aload_n (x := 427) dL_law_267 rfl (q_callSW (As := [.ref 0, .int (xs (i + 1)), .ref 427]) (st := []) pL_raid rfl (TBg_of (w := Cond.methodLink (fC 9) 123 yL_raid) (i := 600) (by decide +kernel) (by decide +kernel)) (TBg_of (w := Cond.static yL_raid) (i := 601) (by decide +kernel) (by decide +kernel)) dL_law_268 (by unfold rmP; decide) rfl (show 0 ≤ 8 by decide) (show 2 ≤ bc by omega) (show 12 ≤ bs by omega) (w_raid _ _ (op.1 J V I R)) (fun v M' hv => ?_) (fun E M' z => z.elim))))
  obtain ⟨T', V'⟩ := M'
  obtain ⟨rfl, hk, J', hT, ⟨c1, r1⟩, hJ⟩ := hv
  dsimp only at hT c1 r1
  subst hT
  refine ⟨rOK_same, ?_⟩
  refine q_ist (L' := (5, .int (nI _)) :: Ln i) dL_law_271 (by decide) rfl ?_
  refine q_aload_n (x := 405) dL_law_273 rfl (q_arg (j := 1) F hi hN (by decide) dL_law_274 dL_law_275 dL_law_277 dL_law_278 dL_law_279 rfl rfl (q_callV (h := 405) (As := [.int (xs (i + 1))]) (st := []) iv_9_126 dL_law_280 (by unfold rmP; decide) rfl (show 0 ≤ 8 by decide) (Nat.zero_le _) (Nat.zero_le _) (show 405 < 428 by decide) rfl (op.2.1 J' V' c1 r1) (fun v M' hv => ?_) (fun E M' z => z.2.elim)))
  obtain ⟨T', V''⟩ := M'
  obtain ⟨hT, ⟨z, rfl, hz⟩, hth, c2, r2⟩ := hv
  dsimp only at hT hth c2 r2
  subst hT
  refine ⟨rOK_same, ?_⟩
  refine q_ist (L' := (6, .int z) :: (5, .int (nI _)) :: Ln i) dL_law_283 (by decide) rfl ?_
  have fin : ∀ k9 : Nat, WLs p l e s m args below meth c G ad0 M0 A Z mL_law 313 ((6, .int z) :: (5, .int (nI k9)) :: Ln i) [] (T0 J', V'') (bc - 2) (bs - 12) := fun k9 => q_goto (tgt := 2129) dL_law_313 rfl (q_loc (fun r hr => List.mem_cons_of_mem _ (List.mem_cons_of_mem _ hr)) (K J' V'' _ _ _ c2 r2 (op.2.2 B hB) (by omega) (by omega)))
  exact law_tail dL_law_285 dL_law_286 dL_law_289 dL_law_291 dL_law_296 dL_law_298 rfl rfl rfl hk hth (fin _) (fun h0 => law_same dL_law_301 dL_law_302 dL_law_303 dL_law_304 dL_law_306 dL_law_307 dL_law_308 rfl rfl ((hJ h0).trans (by rw [hz h0])) (fin _))
theorem cs_step {i B m9 bc bs : Nat} {J : Nat → Nat → Int64} {V : Mem} {q : LSt} (F : SC N xs s G A) (hi : i + 6 ≤ N) (hN : N ≤ 3072) (I : clS V q) (R : rfS V q) (hB : bddL q.2.2.1 B) (hB9 : B ≤ 1000000000) (hbc : 10 * m9 + 10 ≤ bc) (hbs : 60 * m9 + 60 ≤ bs) (K : ∀ (J' : Nat → Nat → Int64) (V' : Mem) (q' : LSt) (bc' bs' : Nat), clS V' q' → rfS V' q' → bddL q'.2.2.1 (B + 400000) → 10 * m9 ≤ bc' → 60 * m9 ≤ bs' → WLs p l e s m args below meth c G ad0 M0 A Z mL_law 2129 (Ln i) [] (T0 J', V') bc' bs') : WLs p l e s m args below meth c G ad0 M0 A Z mL_law 316 (Ln i) [] (T0 J, V) bc bs := by
  have op := op_step q I.1.2 (xs (i + 1)) (xs (i + 2)) (xs (i + 3))
  refine q_aload_n (x := 0) dL_law_316 rfl (q_arg (j := 1) F hi hN (by decide) dL_law_317 dL_law_318 dL_law_320 dL_law_321 dL_law_322 rfl rfl (q_arg (j := 2) F hi hN (by decide) dL_law_323 dL_law_324 dL_law_326 dL_law_327 dL_law_328 rfl rfl (q_arg (j := 3) F hi hN (by decide) dL_law_329 dL_law_330 dL_law_332 dL_law_333 dL_law_334 rfl rfl (q_aload_n (x := 427) dL_law_335 rfl (q_callSW (As := [.ref 0, .int (xs (i + 1)), .int (xs (i + 2)), .int (xs (i + 3)), .ref 427]) (st := []) pL_step rfl (TBg_of (w := Cond.methodLink (fC 9) 127 yL_step) (i := 646) (by decide +kernel) (by decide +kernel)) (TBg_of (w := Cond.static yL_step) (i := 647) (by decide +kernel) (by decide +kernel)) dL_law_336 (by unfold rmP; decide) rfl (show 0 ≤ 8 by decide) (show 2 ≤ bc by omega) (show 12 ≤ bs by omega) (w_step _ _ _ _ (op.1 J V I R)) (fun v M' hv => ?_) (fun E M' z => z.elim))))))
  obtain ⟨T', V'⟩ := M'
  obtain ⟨rfl, hk, J', hT, ⟨c1, r1⟩, hJ⟩ := hv
  dsimp only at hT c1 r1
  subst hT
  refine ⟨rOK_same, ?_⟩
  refine q_ist (L' := (5, .int (nI _)) :: Ln i) dL_law_339 (by decide) rfl ?_
  refine q_aload_n (x := 405) dL_law_341 rfl (q_arg (j := 1) F hi hN (by decide) dL_law_342 dL_law_343 dL_law_345 dL_law_346 dL_law_347 rfl rfl (q_arg (j := 2) F hi hN (by decide) dL_law_348 dL_law_349 dL_law_351 dL_law_352 dL_law_353 rfl rfl (q_arg (j := 3) F hi hN (by decide) dL_law_354 dL_law_355 dL_law_357 dL_law_358 dL_law_359 rfl rfl (q_callV (h := 405) (As := [.int (xs (i + 1)), .int (xs (i + 2)), .int (xs (i + 3))]) (st := []) iv_9_129 dL_law_360 (by unfold rmP; decide) rfl (show 0 ≤ 8 by decide) (Nat.zero_le _) (Nat.zero_le _) (show 405 < 428 by decide) rfl (op.2.1 J' V' c1 r1) (fun v M' hv => ?_) (fun E M' z => z.2.elim)))))
  obtain ⟨T', V''⟩ := M'
  obtain ⟨hT, ⟨z, rfl, hz⟩, hth, c2, r2⟩ := hv
  dsimp only at hT hth c2 r2
  subst hT
  refine ⟨rOK_same, ?_⟩
  refine q_ist (L' := (6, .int z) :: (5, .int (nI _)) :: Ln i) dL_law_363 (by decide) rfl ?_
  have fin : ∀ k9 : Nat, WLs p l e s m args below meth c G ad0 M0 A Z mL_law 393 ((6, .int z) :: (5, .int (nI k9)) :: Ln i) [] (T0 J', V'') (bc - 2) (bs - 12) := fun k9 => q_goto (tgt := 2129) dL_law_393 rfl (q_loc (fun r hr => List.mem_cons_of_mem _ (List.mem_cons_of_mem _ hr)) (K J' V'' _ _ _ c2 r2 (op.2.2 B hB) (by omega) (by omega)))
  exact law_tail dL_law_365 dL_law_366 dL_law_369 dL_law_371 dL_law_376 dL_law_378 rfl rfl rfl hk hth (fin _) (fun h0 => law_same dL_law_381 dL_law_382 dL_law_383 dL_law_384 dL_law_386 dL_law_387 dL_law_388 rfl rfl ((hJ h0).trans (by rw [hz h0])) (fin _))
theorem cs_card {i B m9 bc bs : Nat} {J : Nat → Nat → Int64} {V : Mem} {q : LSt} (F : SC N xs s G A) (hi : i + 6 ≤ N) (hN : N ≤ 3072) (I : clS V q) (R : rfS V q) (hB : bddL q.2.2.1 B) (hB9 : B ≤ 1000000000) (hbc : 10 * m9 + 10 ≤ bc) (hbs : 60 * m9 + 60 ≤ bs) (K : ∀ (J' : Nat → Nat → Int64) (V' : Mem) (q' : LSt) (bc' bs' : Nat), clS V' q' → rfS V' q' → bddL q'.2.2.1 (B + 400000) → 10 * m9 ≤ bc' → 60 * m9 ≤ bs' → WLs p l e s m args below meth c G ad0 M0 A Z mL_law 2129 (Ln i) [] (T0 J', V') bc' bs') : WLs p l e s m args below meth c G ad0 M0 A Z mL_law 396 (Ln i) [] (T0 J, V) bc bs := by
  have op := op_card q I.1.2 (xs (i + 1)) (xs (i + 2)) (xs (i + 3))
  refine q_aload_n (x := 0) dL_law_396 rfl (q_arg (j := 1) F hi hN (by decide) dL_law_397 dL_law_398 dL_law_400 dL_law_401 dL_law_402 rfl rfl (q_arg (j := 2) F hi hN (by decide) dL_law_403 dL_law_404 dL_law_406 dL_law_407 dL_law_408 rfl rfl (q_arg (j := 3) F hi hN (by decide) dL_law_409 dL_law_410 dL_law_412 dL_law_413 dL_law_414 rfl rfl (q_aload_n (x := 427) dL_law_415 rfl (q_callSW (As := [.ref 0, .int (xs (i + 1)), .int (xs (i + 2)), .int (xs (i + 3)), .ref 427]) (st := []) pL_card rfl (TBg_of (w := Cond.methodLink (fC 9) 130 yL_card) (i := 807) (by decide +kernel) (by decide +kernel)) (TBg_of (w := Cond.static yL_card) (i := 808) (by decide +kernel) (by decide +kernel)) dL_law_416 (by unfold rmP; decide) rfl (show 0 ≤ 8 by decide) (show 4 ≤ bc by omega) (show 24 ≤ bs by omega) (w_card _ _ _ _ (op.1 J V I R)) (fun v M' hv => ?_) (fun E M' z => z.elim))))))
  obtain ⟨T', V'⟩ := M'
  obtain ⟨rfl, hk, J', hT, ⟨c1, r1⟩, hJ⟩ := hv
  dsimp only at hT c1 r1
  subst hT
  refine ⟨rOK_same, ?_⟩
  refine q_ist (L' := (5, .int (nI _)) :: Ln i) dL_law_419 (by decide) rfl ?_
  refine q_aload_n (x := 405) dL_law_421 rfl (q_arg (j := 1) F hi hN (by decide) dL_law_422 dL_law_423 dL_law_425 dL_law_426 dL_law_427 rfl rfl (q_arg (j := 2) F hi hN (by decide) dL_law_428 dL_law_429 dL_law_431 dL_law_432 dL_law_433 rfl rfl (q_arg (j := 3) F hi hN (by decide) dL_law_434 dL_law_435 dL_law_437 dL_law_438 dL_law_439 rfl rfl (q_callV (h := 405) (As := [.int (xs (i + 1)), .int (xs (i + 2)), .int (xs (i + 3))]) (st := []) iv_9_132 dL_law_440 (by unfold rmP; decide) rfl (show 0 ≤ 8 by decide) (Nat.zero_le _) (Nat.zero_le _) (show 405 < 428 by decide) rfl (op.2.1 J' V' c1 r1) (fun v M' hv => ?_) (fun E M' z => z.2.elim)))))
  obtain ⟨T', V''⟩ := M'
  obtain ⟨hT, ⟨z, rfl, hz⟩, hth, c2, r2⟩ := hv
  dsimp only at hT hth c2 r2
  subst hT
  refine ⟨rOK_same, ?_⟩
  refine q_ist (L' := (6, .int z) :: (5, .int (nI _)) :: Ln i) dL_law_443 (by decide) rfl ?_
  have fin : ∀ k9 : Nat, WLs p l e s m args below meth c G ad0 M0 A Z mL_law 473 ((6, .int z) :: (5, .int (nI k9)) :: Ln i) [] (T0 J', V'') (bc - 4) (bs - 24) := fun k9 => q_goto (tgt := 2129) dL_law_473 rfl (q_loc (fun r hr => List.mem_cons_of_mem _ (List.mem_cons_of_mem _ hr)) (K J' V'' _ _ _ c2 r2 (op.2.2 B hB) (by omega) (by omega)))
  exact law_tail dL_law_445 dL_law_446 dL_law_449 dL_law_451 dL_law_456 dL_law_458 rfl rfl rfl hk hth (fin _) (fun h0 => law_same dL_law_461 dL_law_462 dL_law_463 dL_law_464 dL_law_466 dL_law_467 dL_law_468 rfl rfl ((hJ h0).trans (by rw [hz h0])) (fin _))
theorem cs_change {i B m9 bc bs : Nat} {J : Nat → Nat → Int64} {V : Mem} {q : LSt} (F : SC N xs s G A) (hi : i + 6 ≤ N) (hN : N ≤ 3072) (I : clS V q) (R : rfS V q) (hB : bddL q.2.2.1 B) (hB9 : B ≤ 1000000000) (hbc : 10 * m9 + 10 ≤ bc) (hbs : 60 * m9 + 60 ≤ bs) (K : ∀ (J' : Nat → Nat → Int64) (V' : Mem) (q' : LSt) (bc' bs' : Nat), clS V' q' → rfS V' q' → bddL q'.2.2.1 (B + 400000) → 10 * m9 ≤ bc' → 60 * m9 ≤ bs' → WLs p l e s m args below meth c G ad0 M0 A Z mL_law 2129 (Ln i) [] (T0 J', V') bc' bs') : WLs p l e s m args below meth c G ad0 M0 A Z mL_law 476 (Ln i) [] (T0 J, V) bc bs := by
  have op := op_change q I.1.2 (xs (i + 1)) (xs (i + 2)) (xs (i + 3))
  refine q_aload_n (x := 0) dL_law_476 rfl (q_arg (j := 1) F hi hN (by decide) dL_law_477 dL_law_478 dL_law_480 dL_law_481 dL_law_482 rfl rfl (q_arg (j := 2) F hi hN (by decide) dL_law_483 dL_law_484 dL_law_486 dL_law_487 dL_law_488 rfl rfl (q_arg (j := 3) F hi hN (by decide) dL_law_489 dL_law_490 dL_law_492 dL_law_493 dL_law_494 rfl rfl (q_aload_n (x := 427) dL_law_495 rfl (q_callSW (As := [.ref 0, .int (xs (i + 1)), .int (xs (i + 2)), .int (xs (i + 3)), .ref 427]) (st := []) pL_change rfl (TBg_of (w := Cond.methodLink (fC 9) 133 yL_change) (i := 829) (by decide +kernel) (by decide +kernel)) (TBg_of (w := Cond.static yL_change) (i := 830) (by decide +kernel) (by decide +kernel)) dL_law_496 (by unfold rmP; decide) rfl (show 0 ≤ 8 by decide) (show 4 ≤ bc by omega) (show 24 ≤ bs by omega) (w_change _ _ _ _ (op.1 J V I R)) (fun v M' hv => ?_) (fun E M' z => z.elim))))))
  obtain ⟨T', V'⟩ := M'
  obtain ⟨rfl, hk, J', hT, ⟨c1, r1⟩, hJ⟩ := hv
  dsimp only at hT c1 r1
  subst hT
  refine ⟨rOK_same, ?_⟩
  refine q_ist (L' := (5, .int (nI _)) :: Ln i) dL_law_499 (by decide) rfl ?_
  refine q_aload_n (x := 405) dL_law_501 rfl (q_arg (j := 1) F hi hN (by decide) dL_law_502 dL_law_503 dL_law_505 dL_law_506 dL_law_507 rfl rfl (q_arg (j := 2) F hi hN (by decide) dL_law_508 dL_law_509 dL_law_511 dL_law_512 dL_law_513 rfl rfl (q_arg (j := 3) F hi hN (by decide) dL_law_514 dL_law_515 dL_law_517 dL_law_518 dL_law_519 rfl rfl (q_callV (h := 405) (As := [.int (xs (i + 1)), .int (xs (i + 2)), .int (xs (i + 3))]) (st := []) iv_9_135 dL_law_520 (by unfold rmP; decide) rfl (show 0 ≤ 8 by decide) (Nat.zero_le _) (Nat.zero_le _) (show 405 < 428 by decide) rfl (op.2.1 J' V' c1 r1) (fun v M' hv => ?_) (fun E M' z => z.2.elim)))))
  obtain ⟨T', V''⟩ := M'
  obtain ⟨hT, ⟨z, rfl, hz⟩, hth, c2, r2⟩ := hv
  dsimp only at hT hth c2 r2
  subst hT
  refine ⟨rOK_same, ?_⟩
  refine q_ist (L' := (6, .int z) :: (5, .int (nI _)) :: Ln i) dL_law_523 (by decide) rfl ?_
  have fin : ∀ k9 : Nat, WLs p l e s m args below meth c G ad0 M0 A Z mL_law 553 ((6, .int z) :: (5, .int (nI k9)) :: Ln i) [] (T0 J', V'') (bc - 4) (bs - 24) := fun k9 => q_goto (tgt := 2129) dL_law_553 rfl (q_loc (fun r hr => List.mem_cons_of_mem _ (List.mem_cons_of_mem _ hr)) (K J' V'' _ _ _ c2 r2 (op.2.2 B hB) (by omega) (by omega)))
  exact law_tail dL_law_525 dL_law_526 dL_law_529 dL_law_531 dL_law_536 dL_law_538 rfl rfl rfl hk hth (fin _) (fun h0 => law_same dL_law_541 dL_law_542 dL_law_543 dL_law_544 dL_law_546 dL_law_547 dL_law_548 rfl rfl ((hJ h0).trans (by rw [hz h0])) (fin _))
theorem cs_review {i B m9 bc bs : Nat} {J : Nat → Nat → Int64} {V : Mem} {q : LSt} (F : SC N xs s G A) (hi : i + 6 ≤ N) (hN : N ≤ 3072) (I : clS V q) (R : rfS V q) (hB : bddL q.2.2.1 B) (hB9 : B ≤ 1000000000) (hbc : 10 * m9 + 10 ≤ bc) (hbs : 60 * m9 + 60 ≤ bs) (K : ∀ (J' : Nat → Nat → Int64) (V' : Mem) (q' : LSt) (bc' bs' : Nat), clS V' q' → rfS V' q' → bddL q'.2.2.1 (B + 400000) → 10 * m9 ≤ bc' → 60 * m9 ≤ bs' → WLs p l e s m args below meth c G ad0 M0 A Z mL_law 2129 (Ln i) [] (T0 J', V') bc' bs') : WLs p l e s m args below meth c G ad0 M0 A Z mL_law 556 (Ln i) [] (T0 J, V) bc bs := by
  have op := op_review q I.1.2 (xs (i + 1)) (xs (i + 2)) (xs (i + 3)) (xs (i + 4)) (xs (i + 5))
  refine q_aload_n (x := 0) dL_law_556 rfl (q_arg (j := 1) F hi hN (by decide) dL_law_557 dL_law_558 dL_law_560 dL_law_561 dL_law_562 rfl rfl (q_arg (j := 2) F hi hN (by decide) dL_law_563 dL_law_564 dL_law_566 dL_law_567 dL_law_568 rfl rfl (q_arg (j := 3) F hi hN (by decide) dL_law_569 dL_law_570 dL_law_572 dL_law_573 dL_law_574 rfl rfl (q_arg (j := 4) F hi hN (by decide) dL_law_575 dL_law_576 dL_law_578 dL_law_579 dL_law_580 rfl rfl (q_arg (j := 5) F hi hN (by decide) dL_law_581 dL_law_582 dL_law_584 dL_law_585 dL_law_586 rfl rfl (q_aload_n (x := 427) dL_law_587 rfl (q_callSW (As := [.ref 0, .int (xs (i + 1)), .int (xs (i + 2)), .int (xs (i + 3)), .int (xs (i + 4)), .int (xs (i + 5)), .ref 427]) (st := []) pL_review rfl (TBg_of (w := Cond.methodLink (fC 9) 136 yL_review) (i := 852) (by decide +kernel) (by decide +kernel)) (TBg_of (w := Cond.static yL_review) (i := 853) (by decide +kernel) (by decide +kernel)) dL_law_588 (by unfold rmP; decide) rfl (show 0 ≤ 8 by decide) (show 5 ≤ bc by omega) (show 30 ≤ bs by omega) (w_review _ _ _ _ _ _ (op.1 J V I R)) (fun v M' hv => ?_) (fun E M' z => z.elim))))))))
  obtain ⟨T', V'⟩ := M'
  obtain ⟨rfl, hk, J', hT, ⟨c1, r1⟩, hJ⟩ := hv
  dsimp only at hT c1 r1
  subst hT
  refine ⟨rOK_same, ?_⟩
  refine q_ist (L' := (5, .int (nI _)) :: Ln i) dL_law_591 (by decide) rfl ?_
  refine q_aload_n (x := 405) dL_law_593 rfl (q_arg (j := 1) F hi hN (by decide) dL_law_594 dL_law_595 dL_law_597 dL_law_598 dL_law_599 rfl rfl (q_arg (j := 2) F hi hN (by decide) dL_law_600 dL_law_601 dL_law_603 dL_law_604 dL_law_605 rfl rfl (q_arg (j := 3) F hi hN (by decide) dL_law_606 dL_law_607 dL_law_609 dL_law_610 dL_law_611 rfl rfl (q_arg (j := 4) F hi hN (by decide) dL_law_612 dL_law_613 dL_law_615 dL_law_616 dL_law_617 rfl rfl (q_arg (j := 5) F hi hN (by decide) dL_law_618 dL_law_619 dL_law_621 dL_law_622 dL_law_623 rfl rfl (q_callV (h := 405) (As := [.int (xs (i + 1)), .int (xs (i + 2)), .int (xs (i + 3)), .int (xs (i + 4)), .int (xs (i + 5))]) (st := []) iv_9_139 dL_law_624 (by unfold rmP; decide) rfl (show 0 ≤ 8 by decide) (Nat.zero_le _) (Nat.zero_le _) (show 405 < 428 by decide) rfl (op.2.1 J' V' c1 r1) (fun v M' hv => ?_) (fun E M' z => z.2.elim)))))))
  obtain ⟨T', V''⟩ := M'
  obtain ⟨hT, ⟨z, rfl, hz⟩, hth, c2, r2⟩ := hv
  dsimp only at hT hth c2 r2
  subst hT
  refine ⟨rOK_same, ?_⟩
  refine q_ist (L' := (6, .int z) :: (5, .int (nI _)) :: Ln i) dL_law_627 (by decide) rfl ?_
  have fin : ∀ k9 : Nat, WLs p l e s m args below meth c G ad0 M0 A Z mL_law 657 ((6, .int z) :: (5, .int (nI k9)) :: Ln i) [] (T0 J', V'') (bc - 5) (bs - 30) := fun k9 => q_goto (tgt := 2129) dL_law_657 rfl (q_loc (fun r hr => List.mem_cons_of_mem _ (List.mem_cons_of_mem _ hr)) (K J' V'' _ _ _ c2 r2 (op.2.2 B hB) (by omega) (by omega)))
  exact law_tail dL_law_629 dL_law_630 dL_law_633 dL_law_635 dL_law_640 dL_law_642 rfl rfl rfl hk hth (fin _) (fun h0 => law_same dL_law_645 dL_law_646 dL_law_647 dL_law_648 dL_law_650 dL_law_651 dL_law_652 rfl rfl ((hJ h0).trans (by rw [hz h0])) (fin _))
theorem cs_wouldFall {i B m9 bc bs : Nat} {J : Nat → Nat → Int64} {V : Mem} {q : LSt} (F : SC N xs s G A) (hi : i + 6 ≤ N) (hN : N ≤ 3072) (I : clS V q) (R : rfS V q) (hB : bddL q.2.2.1 B) (hB9 : B ≤ 1000000000) (hbc : 10 * m9 + 10 ≤ bc) (hbs : 60 * m9 + 60 ≤ bs) (K : ∀ (J' : Nat → Nat → Int64) (V' : Mem) (q' : LSt) (bc' bs' : Nat), clS V' q' → rfS V' q' → bddL q'.2.2.1 (B + 400000) → 10 * m9 ≤ bc' → 60 * m9 ≤ bs' → WLs p l e s m args below meth c G ad0 M0 A Z mL_law 2129 (Ln i) [] (T0 J', V') bc' bs') : WLs p l e s m args below meth c G ad0 M0 A Z mL_law 660 (Ln i) [] (T0 J, V) bc bs := by
  have op := op_wouldFall q I.1.2 (xs (i + 1)) (xs (i + 2)) (xs (i + 3)) (xs (i + 4))
  refine q_aload_n (x := 0) dL_law_660 rfl (q_arg (j := 1) F hi hN (by decide) dL_law_661 dL_law_662 dL_law_664 dL_law_665 dL_law_666 rfl rfl (q_arg (j := 2) F hi hN (by decide) dL_law_667 dL_law_668 dL_law_670 dL_law_671 dL_law_672 rfl rfl (q_arg (j := 3) F hi hN (by decide) dL_law_673 dL_law_674 dL_law_676 dL_law_677 dL_law_678 rfl rfl (q_arg (j := 4) F hi hN (by decide) dL_law_679 dL_law_680 dL_law_682 dL_law_683 dL_law_684 rfl rfl (q_aload_n (x := 427) dL_law_685 rfl (q_callSW (As := [.ref 0, .int (xs (i + 1)), .int (xs (i + 2)), .int (xs (i + 3)), .int (xs (i + 4)), .ref 427]) (st := []) pL_wouldFall rfl (TBg_of (w := Cond.methodLink (fC 9) 140 yL_wouldFall) (i := 914) (by decide +kernel) (by decide +kernel)) (TBg_of (w := Cond.static yL_wouldFall) (i := 915) (by decide +kernel) (by decide +kernel)) dL_law_686 (by unfold rmP; decide) rfl (show 0 ≤ 8 by decide) (show 2 ≤ bc by omega) (show 12 ≤ bs by omega) (w_wouldFall _ _ _ _ _ (op.1 J V I R)) (fun v M' hv => ?_) (fun E M' z => z.elim)))))))
  obtain ⟨T', V'⟩ := M'
  obtain ⟨rfl, hk, J', hT, ⟨c1, r1⟩, hJ⟩ := hv
  dsimp only at hT c1 r1
  subst hT
  refine ⟨rOK_same, ?_⟩
  refine q_ist (L' := (5, .int (nI _)) :: Ln i) dL_law_689 (by decide) rfl ?_
  refine q_aload_n (x := 405) dL_law_691 rfl (q_arg (j := 1) F hi hN (by decide) dL_law_692 dL_law_693 dL_law_695 dL_law_696 dL_law_697 rfl rfl (q_arg (j := 2) F hi hN (by decide) dL_law_698 dL_law_699 dL_law_701 dL_law_702 dL_law_703 rfl rfl (q_arg (j := 3) F hi hN (by decide) dL_law_704 dL_law_705 dL_law_707 dL_law_708 dL_law_709 rfl rfl (q_arg (j := 4) F hi hN (by decide) dL_law_710 dL_law_711 dL_law_713 dL_law_714 dL_law_715 rfl rfl (q_callV (h := 405) (As := [.int (xs (i + 1)), .int (xs (i + 2)), .int (xs (i + 3)), .int (xs (i + 4))]) (st := []) iv_9_143 dL_law_716 (by unfold rmP; decide) rfl (show 0 ≤ 8 by decide) (Nat.zero_le _) (Nat.zero_le _) (show 405 < 428 by decide) rfl (op.2.1 J' V' c1 r1) (fun v M' hv => ?_) (fun E M' z => z.2.elim))))))
  obtain ⟨T', V''⟩ := M'
  obtain ⟨hT, ⟨z, rfl, hz⟩, hth, c2, r2⟩ := hv
  dsimp only at hT hth c2 r2
  subst hT
  refine ⟨rOK_same, ?_⟩
  refine q_ist (L' := (6, .int z) :: (5, .int (nI _)) :: Ln i) dL_law_719 (by decide) rfl ?_
  have fin : ∀ k9 : Nat, WLs p l e s m args below meth c G ad0 M0 A Z mL_law 749 ((6, .int z) :: (5, .int (nI k9)) :: Ln i) [] (T0 J', V'') (bc - 2) (bs - 12) := fun k9 => q_goto (tgt := 2129) dL_law_749 rfl (q_loc (fun r hr => List.mem_cons_of_mem _ (List.mem_cons_of_mem _ hr)) (K J' V'' _ _ _ c2 r2 (op.2.2 B hB) (by omega) (by omega)))
  exact law_tail dL_law_721 dL_law_722 dL_law_725 dL_law_727 dL_law_732 dL_law_734 rfl rfl rfl hk hth (fin _) (fun h0 => law_same dL_law_737 dL_law_738 dL_law_739 dL_law_740 dL_law_742 dL_law_743 dL_law_744 rfl rfl ((hJ h0).trans (by rw [hz h0])) (fin _))
theorem cs_takeBack {i B m9 bc bs : Nat} {J : Nat → Nat → Int64} {V : Mem} {q : LSt} (F : SC N xs s G A) (hi : i + 6 ≤ N) (hN : N ≤ 3072) (I : clS V q) (R : rfS V q) (hB : bddL q.2.2.1 B) (hB9 : B ≤ 1000000000) (hbc : 10 * m9 + 10 ≤ bc) (hbs : 60 * m9 + 60 ≤ bs) (K : ∀ (J' : Nat → Nat → Int64) (V' : Mem) (q' : LSt) (bc' bs' : Nat), clS V' q' → rfS V' q' → bddL q'.2.2.1 (B + 400000) → 10 * m9 ≤ bc' → 60 * m9 ≤ bs' → WLs p l e s m args below meth c G ad0 M0 A Z mL_law 2129 (Ln i) [] (T0 J', V') bc' bs') : WLs p l e s m args below meth c G ad0 M0 A Z mL_law 752 (Ln i) [] (T0 J, V) bc bs := by
  have op := op_takeBack q I.1.2 (xs (i + 1))
  refine q_aload_n (x := 0) dL_law_752 rfl (q_arg (j := 1) F hi hN (by decide) dL_law_753 dL_law_754 dL_law_756 dL_law_757 dL_law_758 rfl rfl (q_aload_n (x := 427) dL_law_759 rfl (q_callSW (As := [.ref 0, .int (xs (i + 1)), .ref 427]) (st := []) pL_takeBack rfl (TBg_of (w := Cond.methodLink (fC 9) 144 yL_takeBack) (i := 921) (by decide +kernel) (by decide +kernel)) (TBg_of (w := Cond.static yL_takeBack) (i := 922) (by decide +kernel) (by decide +kernel)) dL_law_760 (by unfold rmP; decide) rfl (show 0 ≤ 8 by decide) (show 1 ≤ bc by omega) (show 6 ≤ bs by omega) (w_takeBack _ _ (op.1 J V I R)) (fun v M' hv => ?_) (fun E M' z => z.elim))))
  obtain ⟨T', V'⟩ := M'
  obtain ⟨rfl, hk, J', hT, ⟨c1, r1⟩, hJ⟩ := hv
  dsimp only at hT c1 r1
  subst hT
  refine ⟨rOK_same, ?_⟩
  refine q_ist (L' := (5, .int (nI _)) :: Ln i) dL_law_763 (by decide) rfl ?_
  refine q_aload_n (x := 405) dL_law_765 rfl (q_arg (j := 1) F hi hN (by decide) dL_law_766 dL_law_767 dL_law_769 dL_law_770 dL_law_771 rfl rfl (q_callV (h := 405) (As := [.int (xs (i + 1))]) (st := []) iv_9_146 dL_law_772 (by unfold rmP; decide) rfl (show 0 ≤ 8 by decide) (Nat.zero_le _) (Nat.zero_le _) (show 405 < 428 by decide) rfl (op.2.1 J' V' c1 r1) (fun v M' hv => ?_) (fun E M' z => z.2.elim)))
  obtain ⟨T', V''⟩ := M'
  obtain ⟨hT, ⟨z, rfl, hz⟩, hth, c2, r2⟩ := hv
  dsimp only at hT hth c2 r2
  subst hT
  refine ⟨rOK_same, ?_⟩
  refine q_ist (L' := (6, .int z) :: (5, .int (nI _)) :: Ln i) dL_law_775 (by decide) rfl ?_
  have fin : ∀ k9 : Nat, WLs p l e s m args below meth c G ad0 M0 A Z mL_law 805 ((6, .int z) :: (5, .int (nI k9)) :: Ln i) [] (T0 J', V'') (bc - 1) (bs - 6) := fun k9 => q_goto (tgt := 2129) dL_law_805 rfl (q_loc (fun r hr => List.mem_cons_of_mem _ (List.mem_cons_of_mem _ hr)) (K J' V'' _ _ _ c2 r2 (op.2.2 B hB) (by omega) (by omega)))
  exact law_tail dL_law_777 dL_law_778 dL_law_781 dL_law_783 dL_law_788 dL_law_790 rfl rfl rfl hk hth (fin _) (fun h0 => law_same dL_law_793 dL_law_794 dL_law_795 dL_law_796 dL_law_798 dL_law_799 dL_law_800 rfl rfl ((hJ h0).trans (by rw [hz h0])) (fin _))
theorem cs_enter {i B m9 bc bs : Nat} {J : Nat → Nat → Int64} {V : Mem} {q : LSt} (F : SC N xs s G A) (hi : i + 6 ≤ N) (hN : N ≤ 3072) (I : clS V q) (R : rfS V q) (hB : bddL q.2.2.1 B) (hB9 : B ≤ 1000000000) (hbc : 10 * m9 + 10 ≤ bc) (hbs : 60 * m9 + 60 ≤ bs) (K : ∀ (J' : Nat → Nat → Int64) (V' : Mem) (q' : LSt) (bc' bs' : Nat), clS V' q' → rfS V' q' → bddL q'.2.2.1 (B + 400000) → 10 * m9 ≤ bc' → 60 * m9 ≤ bs' → WLs p l e s m args below meth c G ad0 M0 A Z mL_law 2129 (Ln i) [] (T0 J', V') bc' bs') : WLs p l e s m args below meth c G ad0 M0 A Z mL_law 808 (Ln i) [] (T0 J, V) bc bs := by
  have op := op_enter q I.1.2 
  refine q_aload_n (x := 0) dL_law_808 rfl (q_aload_n (x := 427) dL_law_809 rfl (q_callSW (As := [.ref 0, .ref 427]) (st := []) pL_enter rfl (TBg_of (w := Cond.methodLink (fC 9) 147 yL_enter) (i := 936) (by decide +kernel) (by decide +kernel)) (TBg_of (w := Cond.static yL_enter) (i := 937) (by decide +kernel) (by decide +kernel)) dL_law_810 (by unfold rmP; decide) rfl (show 0 ≤ 8 by decide) (show 1 ≤ bc by omega) (show 6 ≤ bs by omega) (w_enter  _ (op.1 J V I R)) (fun v M' hv => ?_) (fun E M' z => z.elim)))
  obtain ⟨T', V'⟩ := M'
  obtain ⟨rfl, hk, J', hT, ⟨c1, r1⟩, hJ⟩ := hv
  dsimp only at hT c1 r1
  subst hT
  refine ⟨rOK_same, ?_⟩
  refine q_ist (L' := (5, .int (nI _)) :: Ln i) dL_law_813 (by decide) rfl ?_
  refine q_aload_n (x := 405) dL_law_815 rfl (q_callV (h := 405) (As := []) (st := []) iv_9_150 dL_law_816 (by unfold rmP; decide) rfl (show 0 ≤ 8 by decide) (Nat.zero_le _) (Nat.zero_le _) (show 405 < 428 by decide) rfl (op.2.1 J' V' c1 r1) (fun v M' hv => ?_) (fun E M' z => z.2.elim))
  obtain ⟨T', V''⟩ := M'
  obtain ⟨hT, ⟨z, rfl, hz⟩, hth, c2, r2⟩ := hv
  dsimp only at hT hth c2 r2
  subst hT
  refine ⟨rOK_same, ?_⟩
  refine q_ist (L' := (6, .int z) :: (5, .int (nI _)) :: Ln i) dL_law_819 (by decide) rfl ?_
  have fin : ∀ k9 : Nat, WLs p l e s m args below meth c G ad0 M0 A Z mL_law 849 ((6, .int z) :: (5, .int (nI k9)) :: Ln i) [] (T0 J', V'') (bc - 1) (bs - 6) := fun k9 => q_goto (tgt := 2129) dL_law_849 rfl (q_loc (fun r hr => List.mem_cons_of_mem _ (List.mem_cons_of_mem _ hr)) (K J' V'' _ _ _ c2 r2 (op.2.2 B hB) (by omega) (by omega)))
  exact law_tail dL_law_821 dL_law_822 dL_law_825 dL_law_827 dL_law_832 dL_law_834 rfl rfl rfl hk hth (fin _) (fun h0 => law_same dL_law_837 dL_law_838 dL_law_839 dL_law_840 dL_law_842 dL_law_843 dL_law_844 rfl rfl ((hJ h0).trans (by rw [hz h0])) (fin _))
theorem cs_type {i B m9 bc bs : Nat} {J : Nat → Nat → Int64} {V : Mem} {q : LSt} (F : SC N xs s G A) (hi : i + 6 ≤ N) (hN : N ≤ 3072) (I : clS V q) (R : rfS V q) (hB : bddL q.2.2.1 B) (hB9 : B ≤ 1000000000) (hbc : 10 * m9 + 10 ≤ bc) (hbs : 60 * m9 + 60 ≤ bs) (K : ∀ (J' : Nat → Nat → Int64) (V' : Mem) (q' : LSt) (bc' bs' : Nat), clS V' q' → rfS V' q' → bddL q'.2.2.1 (B + 400000) → 10 * m9 ≤ bc' → 60 * m9 ≤ bs' → WLs p l e s m args below meth c G ad0 M0 A Z mL_law 2129 (Ln i) [] (T0 J', V') bc' bs') : WLs p l e s m args below meth c G ad0 M0 A Z mL_law 852 (Ln i) [] (T0 J, V) bc bs := by
  have op := op_type q  (xs (i + 1))
  refine q_aload_n (x := 0) dL_law_852 rfl (q_arg (j := 1) F hi hN (by decide) dL_law_853 dL_law_854 dL_law_856 dL_law_857 dL_law_858 rfl rfl (q_aload_n (x := 427) dL_law_859 rfl (q_callSW (As := [.ref 0, .int (xs (i + 1)), .ref 427]) (st := []) pL_type rfl (TBg_of (w := Cond.methodLink (fC 9) 151 yL_type) (i := 967) (by decide +kernel) (by decide +kernel)) (TBg_of (w := Cond.static yL_type) (i := 968) (by decide +kernel) (by decide +kernel)) dL_law_860 (by unfold rmP; decide) rfl (show 0 ≤ 8 by decide) (show 2 ≤ bc by omega) (show 12 ≤ bs by omega) (w_type _ _ (op.1 J V I R)) (fun v M' hv => ?_) (fun E M' z => z.elim))))
  obtain ⟨T', V'⟩ := M'
  obtain ⟨rfl, hk, J', hT, ⟨c1, r1⟩, hJ⟩ := hv
  dsimp only at hT c1 r1
  subst hT
  refine ⟨rOK_same, ?_⟩
  refine q_ist (L' := (5, .int (nI _)) :: Ln i) dL_law_863 (by decide) rfl ?_
  refine q_aload_n (x := 405) dL_law_865 rfl (q_arg (j := 1) F hi hN (by decide) dL_law_866 dL_law_867 dL_law_869 dL_law_870 dL_law_871 rfl rfl (q_callV (h := 405) (As := [.int (xs (i + 1))]) (st := []) iv_9_153 dL_law_872 (by unfold rmP; decide) rfl (show 0 ≤ 8 by decide) (Nat.zero_le _) (Nat.zero_le _) (show 405 < 428 by decide) rfl (op.2.1 J' V' c1 r1) (fun v M' hv => ?_) (fun E M' z => z.2.elim)))
  obtain ⟨T', V''⟩ := M'
  obtain ⟨hT, ⟨z, rfl, hz⟩, hth, c2, r2⟩ := hv
  dsimp only at hT hth c2 r2
  subst hT
  refine ⟨rOK_same, ?_⟩
  refine q_ist (L' := (6, .int z) :: (5, .int (nI _)) :: Ln i) dL_law_875 (by decide) rfl ?_
  have fin : ∀ k9 : Nat, WLs p l e s m args below meth c G ad0 M0 A Z mL_law 905 ((6, .int z) :: (5, .int (nI k9)) :: Ln i) [] (T0 J', V'') (bc - 2) (bs - 12) := fun k9 => q_goto (tgt := 2129) dL_law_905 rfl (q_loc (fun r hr => List.mem_cons_of_mem _ (List.mem_cons_of_mem _ hr)) (K J' V'' _ _ _ c2 r2 (op.2.2 B hB) (by omega) (by omega)))
  exact law_tail dL_law_877 dL_law_878 dL_law_881 dL_law_883 dL_law_888 dL_law_890 rfl rfl rfl hk hth (fin _) (fun h0 => law_same dL_law_893 dL_law_894 dL_law_895 dL_law_896 dL_law_898 dL_law_899 dL_law_900 rfl rfl ((hJ h0).trans (by rw [hz h0])) (fin _))
theorem cs_clear {i B m9 bc bs : Nat} {J : Nat → Nat → Int64} {V : Mem} {q : LSt} (F : SC N xs s G A) (hi : i + 6 ≤ N) (hN : N ≤ 3072) (I : clS V q) (R : rfS V q) (hB : bddL q.2.2.1 B) (hB9 : B ≤ 1000000000) (hbc : 10 * m9 + 10 ≤ bc) (hbs : 60 * m9 + 60 ≤ bs) (K : ∀ (J' : Nat → Nat → Int64) (V' : Mem) (q' : LSt) (bc' bs' : Nat), clS V' q' → rfS V' q' → bddL q'.2.2.1 (B + 400000) → 10 * m9 ≤ bc' → 60 * m9 ≤ bs' → WLs p l e s m args below meth c G ad0 M0 A Z mL_law 2129 (Ln i) [] (T0 J', V') bc' bs') : WLs p l e s m args below meth c G ad0 M0 A Z mL_law 908 (Ln i) [] (T0 J, V) bc bs := by
  obtain ⟨o1, o2⟩ := op_clear q
  refine q_aload_n (x := 0) dL_law_908 rfl (q_callV (h := 0) (As := []) (st := []) iv_9_154 dL_law_909 (by unfold rmP; decide) rfl (show 0 ≤ 8 by decide) (Nat.zero_le _) (Nat.zero_le _) (show 0 < 428 by decide) rfl (o1 J V I R) (fun v M' hv => ?_) (fun E M' z => z.2.elim))
  obtain ⟨T', V'⟩ := M'
  obtain ⟨hT, rfl, c1, r1⟩ := hv
  dsimp only at hT c1 r1
  subst hT
  refine ⟨rOK_same, ?_⟩
  refine q_aload_n (x := 405) dL_law_912 rfl (q_callV (h := 405) (As := []) iv_9_157 dL_law_913 (by unfold rmP; decide) rfl (show 1 ≤ 8 by decide) (Nat.zero_le _) (Nat.zero_le _) (show 405 < 428 by decide) rfl (o2 J V' c1 r1) (fun v M' hv => ?_) (fun E M' z => z.2.elim))
  obtain ⟨T', V''⟩ := M'
  obtain ⟨hT, ⟨z, rfl, hz⟩, -, c2, r2⟩ := hv
  dsimp only at hT c2 r2
  subst hT
  have hz := hz rfl
  subst hz
  refine ⟨rOK_same, ?_⟩
  exact q_icmp_eq (tgt := 2129) dL_law_916 rfl (fun _ => K J V'' (q.1, q.2.1, q.2.2.1, 0, fun _ => -1) _ _ c2 r2 (bddL_m hB) (show 10 * m9 ≤ bc by omega) (show 60 * m9 ≤ bs by omega)) (fun z0 => (z0 rfl).elim)
theorem cs_fault {i B m9 bc bs : Nat} {J : Nat → Nat → Int64} {V : Mem} {q : LSt} (F : SC N xs s G A) (hi : i + 6 ≤ N) (hN : N ≤ 3072) (I : clS V q) (R : rfS V q) (hB : bddL q.2.2.1 B) (hB9 : B ≤ 1000000000) (hbc : 10 * m9 + 10 ≤ bc) (hbs : 60 * m9 + 60 ≤ bs) (K : ∀ (J' : Nat → Nat → Int64) (V' : Mem) (q' : LSt) (bc' bs' : Nat), clS V' q' → rfS V' q' → bddL q'.2.2.1 (B + 400000) → 10 * m9 ≤ bc' → 60 * m9 ≤ bs' → WLs p l e s m args below meth c G ad0 M0 A Z mL_law 2129 (Ln i) [] (T0 J', V') bc' bs') : WLs p l e s m args below meth c G ad0 M0 A Z mL_law 921 (Ln i) [] (T0 J, V) bc bs := by
  obtain ⟨o1, o2⟩ := op_fault q
  refine q_aload_n (x := 0) dL_law_921 rfl (q_callV (h := 0) (As := []) (st := []) iv_9_158 dL_law_922 (by unfold rmP; decide) rfl (show 0 ≤ 8 by decide) (Nat.zero_le _) (Nat.zero_le _) (show 0 < 428 by decide) rfl (o1 J V I R) (fun v M' hv => ?_) (fun E M' z => z.2.elim))
  obtain ⟨T', V'⟩ := M'
  obtain ⟨hT, rfl, c1, r1⟩ := hv
  dsimp only at hT c1 r1
  subst hT
  refine ⟨rOK_same, ?_⟩
  refine q_aload_n (x := 405) dL_law_925 rfl (q_callV (h := 405) (As := []) iv_9_161 dL_law_926 (by unfold rmP; decide) rfl (show 1 ≤ 8 by decide) (Nat.zero_le _) (Nat.zero_le _) (show 405 < 428 by decide) rfl (o2 J V' c1 r1) (fun v M' hv => ?_) (fun E M' z => z.2.elim))
  obtain ⟨T', V''⟩ := M'
  obtain ⟨hT, ⟨z, rfl, hz⟩, -, c2, r2⟩ := hv
  dsimp only at hT c2 r2
  subst hT
  have hz := hz rfl
  subst hz
  refine ⟨rOK_same, ?_⟩
  exact q_icmp_eq (tgt := 2129) dL_law_929 rfl (fun _ => K J V'' q _ _ c2 r2 (bddL_m hB) (show 10 * m9 ≤ bc by omega) (show 60 * m9 ≤ bs by omega)) (fun z0 => (z0 rfl).elim)
theorem cs_run {i B m9 bc bs : Nat} {J : Nat → Nat → Int64} {V : Mem} {q : LSt} (F : SC N xs s G A) (hi : i + 6 ≤ N) (hN : N ≤ 3072) (I : clS V q) (R : rfS V q) (hB : bddL q.2.2.1 B) (hB9 : B ≤ 1000000000) (hbc : 10 * m9 + 10 ≤ bc) (hbs : 60 * m9 + 60 ≤ bs) (K : ∀ (J' : Nat → Nat → Int64) (V' : Mem) (q' : LSt) (bc' bs' : Nat), clS V' q' → rfS V' q' → bddL q'.2.2.1 (B + 400000) → 10 * m9 ≤ bc' → 60 * m9 ≤ bs' → WLs p l e s m args below meth c G ad0 M0 A Z mL_law 2129 (Ln i) [] (T0 J', V') bc' bs') : WLs p l e s m args below meth c G ad0 M0 A Z mL_law 934 (Ln i) [] (T0 J, V) bc bs := by
  have op := op_run q I.1.2 
  refine q_aload_n (x := 0) dL_law_934 rfl (q_aload_n (x := 427) dL_law_935 rfl (q_callSW (As := [.ref 0, .ref 427]) (st := []) pL_run rfl (TBg_of (w := Cond.methodLink (fC 9) 162 yL_run) (i := 982) (by decide +kernel) (by decide +kernel)) (TBg_of (w := Cond.static yL_run) (i := 983) (by decide +kernel) (by decide +kernel)) dL_law_936 (by unfold rmP; decide) rfl (show 0 ≤ 8 by decide) (show 1 ≤ bc by omega) (show 6 ≤ bs by omega) (w_run  _ (op.1 J V I R)) (fun v M' hv => ?_) (fun E M' z => z.elim)))
  obtain ⟨T', V'⟩ := M'
  obtain ⟨rfl, hk, J', hT, ⟨c1, r1⟩, hJ⟩ := hv
  dsimp only at hT c1 r1
  subst hT
  refine ⟨rOK_same, ?_⟩
  refine q_ist (L' := (5, .int (nI _)) :: Ln i) dL_law_939 (by decide) rfl ?_
  refine q_aload_n (x := 405) dL_law_941 rfl (q_callV (h := 405) (As := []) (st := []) iv_9_164 dL_law_942 (by unfold rmP; decide) rfl (show 0 ≤ 8 by decide) (Nat.zero_le _) (Nat.zero_le _) (show 405 < 428 by decide) rfl (op.2.1 J' V' c1 r1) (fun v M' hv => ?_) (fun E M' z => z.2.elim))
  obtain ⟨T', V''⟩ := M'
  obtain ⟨hT, ⟨z, rfl, hz⟩, hth, c2, r2⟩ := hv
  dsimp only at hT hth c2 r2
  subst hT
  refine ⟨rOK_same, ?_⟩
  refine q_ist (L' := (6, .int z) :: (5, .int (nI _)) :: Ln i) dL_law_945 (by decide) rfl ?_
  have fin : ∀ k9 : Nat, WLs p l e s m args below meth c G ad0 M0 A Z mL_law 975 ((6, .int z) :: (5, .int (nI k9)) :: Ln i) [] (T0 J', V'') (bc - 1) (bs - 6) := fun k9 => q_goto (tgt := 2129) dL_law_975 rfl (q_loc (fun r hr => List.mem_cons_of_mem _ (List.mem_cons_of_mem _ hr)) (K J' V'' _ _ _ c2 r2 (op.2.2 B hB) (by omega) (by omega)))
  exact law_tail dL_law_947 dL_law_948 dL_law_951 dL_law_953 dL_law_958 dL_law_960 rfl rfl rfl hk hth (fin _) (fun h0 => law_same dL_law_963 dL_law_964 dL_law_965 dL_law_966 dL_law_968 dL_law_969 dL_law_970 rfl rfl ((hJ h0).trans (by rw [hz h0])) (fin _))
theorem cs_player {i B m9 bc bs : Nat} {J : Nat → Nat → Int64} {V : Mem} {q : LSt} (F : SC N xs s G A) (hi : i + 6 ≤ N) (hN : N ≤ 3072) (I : clS V q) (R : rfS V q) (hB : bddL q.2.2.1 B) (hB9 : B ≤ 1000000000) (hbc : 10 * m9 + 10 ≤ bc) (hbs : 60 * m9 + 60 ≤ bs) (K : ∀ (J' : Nat → Nat → Int64) (V' : Mem) (q' : LSt) (bc' bs' : Nat), clS V' q' → rfS V' q' → bddL q'.2.2.1 (B + 400000) → 10 * m9 ≤ bc' → 60 * m9 ≤ bs' → WLs p l e s m args below meth c G ad0 M0 A Z mL_law 2129 (Ln i) [] (T0 J', V') bc' bs') : WLs p l e s m args below meth c G ad0 M0 A Z mL_law 978 (Ln i) [] (T0 J, V) bc bs := by
  have op := op_player q I.1.2 (xs (i + 1)) (xs (i + 2))
  refine q_aload_n (x := 0) dL_law_978 rfl (q_arg (j := 1) F hi hN (by decide) dL_law_979 dL_law_980 dL_law_982 dL_law_983 dL_law_984 rfl rfl (q_arg (j := 2) F hi hN (by decide) dL_law_985 dL_law_986 dL_law_988 dL_law_989 dL_law_990 rfl rfl (q_aload_n (x := 427) dL_law_991 rfl (q_callSW (As := [.ref 0, .int (xs (i + 1)), .int (xs (i + 2)), .ref 427]) (st := []) pL_player rfl (TBg_of (w := Cond.methodLink (fC 9) 165 yL_player) (i := 995) (by decide +kernel) (by decide +kernel)) (TBg_of (w := Cond.static yL_player) (i := 996) (by decide +kernel) (by decide +kernel)) dL_law_992 (by unfold rmP; decide) rfl (show 0 ≤ 8 by decide) (show 3 ≤ bc by omega) (show 18 ≤ bs by omega) (w_player _ _ _ (op.1 J V I R)) (fun v M' hv => ?_) (fun E M' z => z.elim)))))
  obtain ⟨T', V'⟩ := M'
  obtain ⟨rfl, hk, J', hT, ⟨c1, r1⟩, hJ⟩ := hv
  dsimp only at hT c1 r1
  subst hT
  refine ⟨rOK_same, ?_⟩
  refine q_ist (L' := (5, .int (nI _)) :: Ln i) dL_law_995 (by decide) rfl ?_
  refine q_aload_n (x := 405) dL_law_997 rfl (q_arg (j := 1) F hi hN (by decide) dL_law_998 dL_law_999 dL_law_1001 dL_law_1002 dL_law_1003 rfl rfl (q_arg (j := 2) F hi hN (by decide) dL_law_1004 dL_law_1005 dL_law_1007 dL_law_1008 dL_law_1009 rfl rfl (q_callV (h := 405) (As := [.int (xs (i + 1)), .int (xs (i + 2))]) (st := []) iv_9_168 dL_law_1010 (by unfold rmP; decide) rfl (show 0 ≤ 8 by decide) (Nat.zero_le _) (Nat.zero_le _) (show 405 < 428 by decide) rfl (op.2.1 J' V' c1 r1) (fun v M' hv => ?_) (fun E M' z => z.2.elim))))
  obtain ⟨T', V''⟩ := M'
  obtain ⟨hT, ⟨z, rfl, hz⟩, hth, c2, r2⟩ := hv
  dsimp only at hT hth c2 r2
  subst hT
  refine ⟨rOK_same, ?_⟩
  refine q_ist (L' := (6, .int z) :: (5, .int (nI _)) :: Ln i) dL_law_1013 (by decide) rfl ?_
  have fin : ∀ k9 : Nat, WLs p l e s m args below meth c G ad0 M0 A Z mL_law 1043 ((6, .int z) :: (5, .int (nI k9)) :: Ln i) [] (T0 J', V'') (bc - 3) (bs - 18) := fun k9 => q_goto (tgt := 2129) dL_law_1043 rfl (q_loc (fun r hr => List.mem_cons_of_mem _ (List.mem_cons_of_mem _ hr)) (K J' V'' _ _ _ c2 r2 (op.2.2 B hB) (by omega) (by omega)))
  exact law_tail dL_law_1015 dL_law_1016 dL_law_1019 dL_law_1021 dL_law_1026 dL_law_1028 rfl rfl rfl hk hth (fin _) (fun h0 => law_same dL_law_1031 dL_law_1032 dL_law_1033 dL_law_1034 dL_law_1036 dL_law_1037 dL_law_1038 rfl rfl ((hJ h0).trans (by rw [hz h0])) (fin _))
theorem cs_out {i B m9 bc bs : Nat} {J : Nat → Nat → Int64} {V : Mem} {q : LSt} (F : SC N xs s G A) (hi : i + 6 ≤ N) (hN : N ≤ 3072) (I : clS V q) (R : rfS V q) (hB : bddL q.2.2.1 B) (hB9 : B ≤ 1000000000) (hbc : 10 * m9 + 10 ≤ bc) (hbs : 60 * m9 + 60 ≤ bs) (K : ∀ (J' : Nat → Nat → Int64) (V' : Mem) (q' : LSt) (bc' bs' : Nat), clS V' q' → rfS V' q' → bddL q'.2.2.1 (B + 400000) → 10 * m9 ≤ bc' → 60 * m9 ≤ bs' → WLs p l e s m args below meth c G ad0 M0 A Z mL_law 2129 (Ln i) [] (T0 J', V') bc' bs') : WLs p l e s m args below meth c G ad0 M0 A Z mL_law 1046 (Ln i) [] (T0 J, V) bc bs := by
  have op := op_out q I.1.2 (xs (i + 1)) (xs (i + 2))
  refine q_aload_n (x := 0) dL_law_1046 rfl (q_arg (j := 1) F hi hN (by decide) dL_law_1047 dL_law_1048 dL_law_1050 dL_law_1051 dL_law_1052 rfl rfl (q_arg (j := 2) F hi hN (by decide) dL_law_1053 dL_law_1054 dL_law_1056 dL_law_1057 dL_law_1058 rfl rfl (q_aload_n (x := 427) dL_law_1059 rfl (q_callSW (As := [.ref 0, .int (xs (i + 1)), .int (xs (i + 2)), .ref 427]) (st := []) pL_out rfl (TBg_of (w := Cond.methodLink (fC 9) 169 yL_out) (i := 1007) (by decide +kernel) (by decide +kernel)) (TBg_of (w := Cond.static yL_out) (i := 1008) (by decide +kernel) (by decide +kernel)) dL_law_1060 (by unfold rmP; decide) rfl (show 0 ≤ 8 by decide) (show 3 ≤ bc by omega) (show 18 ≤ bs by omega) (w_out _ _ _ (op.1 J V I R)) (fun v M' hv => ?_) (fun E M' z => z.elim)))))
  obtain ⟨T', V'⟩ := M'
  obtain ⟨rfl, hk, J', hT, ⟨c1, r1⟩, hJ⟩ := hv
  dsimp only at hT c1 r1
  subst hT
  refine ⟨rOK_same, ?_⟩
  refine q_ist (L' := (5, .int (nI _)) :: Ln i) dL_law_1063 (by decide) rfl ?_
  refine q_aload_n (x := 405) dL_law_1065 rfl (q_arg (j := 1) F hi hN (by decide) dL_law_1066 dL_law_1067 dL_law_1069 dL_law_1070 dL_law_1071 rfl rfl (q_arg (j := 2) F hi hN (by decide) dL_law_1072 dL_law_1073 dL_law_1075 dL_law_1076 dL_law_1077 rfl rfl (q_callV (h := 405) (As := [.int (xs (i + 1)), .int (xs (i + 2))]) (st := []) iv_9_171 dL_law_1078 (by unfold rmP; decide) rfl (show 0 ≤ 8 by decide) (Nat.zero_le _) (Nat.zero_le _) (show 405 < 428 by decide) rfl (op.2.1 J' V' c1 r1) (fun v M' hv => ?_) (fun E M' z => z.2.elim))))
  obtain ⟨T', V''⟩ := M'
  obtain ⟨hT, ⟨z, rfl, hz⟩, hth, c2, r2⟩ := hv
  dsimp only at hT hth c2 r2
  subst hT
  refine ⟨rOK_same, ?_⟩
  refine q_ist (L' := (6, .int z) :: (5, .int (nI _)) :: Ln i) dL_law_1081 (by decide) rfl ?_
  have fin : ∀ k9 : Nat, WLs p l e s m args below meth c G ad0 M0 A Z mL_law 1111 ((6, .int z) :: (5, .int (nI k9)) :: Ln i) [] (T0 J', V'') (bc - 3) (bs - 18) := fun k9 => q_goto (tgt := 2129) dL_law_1111 rfl (q_loc (fun r hr => List.mem_cons_of_mem _ (List.mem_cons_of_mem _ hr)) (K J' V'' _ _ _ c2 r2 (op.2.2 B hB) (by omega) (by omega)))
  exact law_tail dL_law_1083 dL_law_1084 dL_law_1087 dL_law_1089 dL_law_1094 dL_law_1096 rfl rfl rfl hk hth (fin _) (fun h0 => law_same dL_law_1099 dL_law_1100 dL_law_1101 dL_law_1102 dL_law_1104 dL_law_1105 dL_law_1106 rfl rfl ((hJ h0).trans (by rw [hz h0])) (fin _))
theorem cs_next {i B m9 bc bs : Nat} {J : Nat → Nat → Int64} {V : Mem} {q : LSt} (F : SC N xs s G A) (hi : i + 6 ≤ N) (hN : N ≤ 3072) (I : clS V q) (R : rfS V q) (hB : bddL q.2.2.1 B) (hB9 : B ≤ 1000000000) (hbc : 10 * m9 + 10 ≤ bc) (hbs : 60 * m9 + 60 ≤ bs) (K : ∀ (J' : Nat → Nat → Int64) (V' : Mem) (q' : LSt) (bc' bs' : Nat), clS V' q' → rfS V' q' → bddL q'.2.2.1 (B + 400000) → 10 * m9 ≤ bc' → 60 * m9 ≤ bs' → WLs p l e s m args below meth c G ad0 M0 A Z mL_law 2129 (Ln i) [] (T0 J', V') bc' bs') : WLs p l e s m args below meth c G ad0 M0 A Z mL_law 1114 (Ln i) [] (T0 J, V) bc bs := by
  have op := op_next q I.1.2 (xs (i + 1))
  refine q_aload_n (x := 0) dL_law_1114 rfl (q_arg (j := 1) F hi hN (by decide) dL_law_1115 dL_law_1116 dL_law_1118 dL_law_1119 dL_law_1120 rfl rfl (q_aload_n (x := 427) dL_law_1121 rfl (q_callSW (As := [.ref 0, .int (xs (i + 1)), .ref 427]) (st := []) pL_next rfl (TBg_of (w := Cond.methodLink (fC 9) 172 yL_next) (i := 1021) (by decide +kernel) (by decide +kernel)) (TBg_of (w := Cond.static yL_next) (i := 1022) (by decide +kernel) (by decide +kernel)) dL_law_1122 (by unfold rmP; decide) rfl (show 0 ≤ 8 by decide) (show 2 ≤ bc by omega) (show 12 ≤ bs by omega) (w_next _ _ (op.1 J V I R)) (fun v M' hv => ?_) (fun E M' z => z.elim))))
  obtain ⟨T', V'⟩ := M'
  obtain ⟨rfl, hk, J', hT, ⟨c1, r1⟩, hJ⟩ := hv
  dsimp only at hT c1 r1
  subst hT
  refine ⟨rOK_same, ?_⟩
  refine q_ist (L' := (5, .int (nI _)) :: Ln i) dL_law_1125 (by decide) rfl ?_
  refine q_aload_n (x := 405) dL_law_1127 rfl (q_arg (j := 1) F hi hN (by decide) dL_law_1128 dL_law_1129 dL_law_1131 dL_law_1132 dL_law_1133 rfl rfl (q_callV (h := 405) (As := [.int (xs (i + 1))]) (st := []) iv_9_174 dL_law_1134 (by unfold rmP; decide) rfl (show 0 ≤ 8 by decide) (Nat.zero_le _) (Nat.zero_le _) (show 405 < 428 by decide) rfl (op.2.1 J' V' c1 r1) (fun v M' hv => ?_) (fun E M' z => z.2.elim)))
  obtain ⟨T', V''⟩ := M'
  obtain ⟨hT, ⟨z, rfl, hz⟩, hth, c2, r2⟩ := hv
  dsimp only at hT hth c2 r2
  subst hT
  refine ⟨rOK_same, ?_⟩
  refine q_ist (L' := (6, .int z) :: (5, .int (nI _)) :: Ln i) dL_law_1137 (by decide) rfl ?_
  have fin : ∀ k9 : Nat, WLs p l e s m args below meth c G ad0 M0 A Z mL_law 1167 ((6, .int z) :: (5, .int (nI k9)) :: Ln i) [] (T0 J', V'') (bc - 2) (bs - 12) := fun k9 => q_goto (tgt := 2129) dL_law_1167 rfl (q_loc (fun r hr => List.mem_cons_of_mem _ (List.mem_cons_of_mem _ hr)) (K J' V'' _ _ _ c2 r2 (op.2.2 B hB) (by omega) (by omega)))
  exact law_tail dL_law_1139 dL_law_1140 dL_law_1143 dL_law_1145 dL_law_1150 dL_law_1152 rfl rfl rfl hk hth (fin _) (fun h0 => law_same dL_law_1155 dL_law_1156 dL_law_1157 dL_law_1158 dL_law_1160 dL_law_1161 dL_law_1162 rfl rfl ((hJ h0).trans (by rw [hz h0])) (fin _))
theorem cs_points {i B m9 bc bs : Nat} {J : Nat → Nat → Int64} {V : Mem} {q : LSt} (F : SC N xs s G A) (hi : i + 6 ≤ N) (hN : N ≤ 3072) (I : clS V q) (R : rfS V q) (hB : bddL q.2.2.1 B) (hB9 : B ≤ 1000000000) (hbc : 10 * m9 + 10 ≤ bc) (hbs : 60 * m9 + 60 ≤ bs) (K : ∀ (J' : Nat → Nat → Int64) (V' : Mem) (q' : LSt) (bc' bs' : Nat), clS V' q' → rfS V' q' → bddL q'.2.2.1 (B + 400000) → 10 * m9 ≤ bc' → 60 * m9 ≤ bs' → WLs p l e s m args below meth c G ad0 M0 A Z mL_law 2129 (Ln i) [] (T0 J', V') bc' bs') : WLs p l e s m args below meth c G ad0 M0 A Z mL_law 1170 (Ln i) [] (T0 J, V) bc bs := by
  have op := op_points q I.1.2 (xs (i + 1))
  refine q_aload_n (x := 0) dL_law_1170 rfl (q_arg (j := 1) F hi hN (by decide) dL_law_1171 dL_law_1172 dL_law_1174 dL_law_1175 dL_law_1176 rfl rfl (q_aload_n (x := 427) dL_law_1177 rfl (q_callSW (As := [.ref 0, .int (xs (i + 1)), .ref 427]) (st := []) pL_points rfl (TBg_of (w := Cond.methodLink (fC 9) 175 yL_points) (i := 1028) (by decide +kernel) (by decide +kernel)) (TBg_of (w := Cond.static yL_points) (i := 1029) (by decide +kernel) (by decide +kernel)) dL_law_1178 (by unfold rmP; decide) rfl (show 0 ≤ 8 by decide) (show 2 ≤ bc by omega) (show 12 ≤ bs by omega) (w_points _ _ (op.1 J V I R)) (fun v M' hv => ?_) (fun E M' z => z.elim))))
  obtain ⟨T', V'⟩ := M'
  obtain ⟨rfl, hk, J', hT, ⟨c1, r1⟩, hJ⟩ := hv
  dsimp only at hT c1 r1
  subst hT
  refine ⟨rOK_same, ?_⟩
  refine q_ist (L' := (5, .int (nI _)) :: Ln i) dL_law_1181 (by decide) rfl ?_
  refine q_aload_n (x := 405) dL_law_1183 rfl (q_arg (j := 1) F hi hN (by decide) dL_law_1184 dL_law_1185 dL_law_1187 dL_law_1188 dL_law_1189 rfl rfl (q_callV (h := 405) (As := [.int (xs (i + 1))]) (st := []) iv_9_177 dL_law_1190 (by unfold rmP; decide) rfl (show 0 ≤ 8 by decide) (Nat.zero_le _) (Nat.zero_le _) (show 405 < 428 by decide) rfl (op.2.1 J' V' c1 r1) (fun v M' hv => ?_) (fun E M' z => z.2.elim)))
  obtain ⟨T', V''⟩ := M'
  obtain ⟨hT, ⟨z, rfl, hz⟩, hth, c2, r2⟩ := hv
  dsimp only at hT hth c2 r2
  subst hT
  refine ⟨rOK_same, ?_⟩
  refine q_ist (L' := (6, .int z) :: (5, .int (nI _)) :: Ln i) dL_law_1193 (by decide) rfl ?_
  have fin : ∀ k9 : Nat, WLs p l e s m args below meth c G ad0 M0 A Z mL_law 1223 ((6, .int z) :: (5, .int (nI k9)) :: Ln i) [] (T0 J', V'') (bc - 2) (bs - 12) := fun k9 => q_goto (tgt := 2129) dL_law_1223 rfl (q_loc (fun r hr => List.mem_cons_of_mem _ (List.mem_cons_of_mem _ hr)) (K J' V'' _ _ _ c2 r2 (op.2.2 B hB) (by omega) (by omega)))
  exact law_tail dL_law_1195 dL_law_1196 dL_law_1199 dL_law_1201 dL_law_1206 dL_law_1208 rfl rfl rfl hk hth (fin _) (fun h0 => law_same dL_law_1211 dL_law_1212 dL_law_1213 dL_law_1214 dL_law_1216 dL_law_1217 dL_law_1218 rfl rfl ((hJ h0).trans (by rw [hz h0])) (fin _))
theorem cs_match {i B m9 bc bs : Nat} {J : Nat → Nat → Int64} {V : Mem} {q : LSt} (F : SC N xs s G A) (hi : i + 6 ≤ N) (hN : N ≤ 3072) (I : clS V q) (R : rfS V q) (hB : bddL q.2.2.1 B) (hB9 : B ≤ 1000000000) (hbc : 10 * m9 + 10 ≤ bc) (hbs : 60 * m9 + 60 ≤ bs) (K : ∀ (J' : Nat → Nat → Int64) (V' : Mem) (q' : LSt) (bc' bs' : Nat), clS V' q' → rfS V' q' → bddL q'.2.2.1 (B + 400000) → 10 * m9 ≤ bc' → 60 * m9 ≤ bs' → WLs p l e s m args below meth c G ad0 M0 A Z mL_law 2129 (Ln i) [] (T0 J', V') bc' bs') : WLs p l e s m args below meth c G ad0 M0 A Z mL_law 1226 (Ln i) [] (T0 J, V) bc bs := by
  have op := op_match q I.1.2 (xs (i + 1))
  refine q_aload_n (x := 0) dL_law_1226 rfl (q_arg (j := 1) F hi hN (by decide) dL_law_1227 dL_law_1228 dL_law_1230 dL_law_1231 dL_law_1232 rfl rfl (q_aload_n (x := 427) dL_law_1233 rfl (q_callSW (As := [.ref 0, .int (xs (i + 1)), .ref 427]) (st := []) pL_match rfl (TBg_of (w := Cond.methodLink (fC 9) 178 yL_match) (i := 1035) (by decide +kernel) (by decide +kernel)) (TBg_of (w := Cond.static yL_match) (i := 1036) (by decide +kernel) (by decide +kernel)) dL_law_1234 (by unfold rmP; decide) rfl (show 0 ≤ 8 by decide) (show 2 ≤ bc by omega) (show 12 ≤ bs by omega) (w_match _ _ (op.1 J V I R)) (fun v M' hv => ?_) (fun E M' z => z.elim))))
  obtain ⟨T', V'⟩ := M'
  obtain ⟨rfl, hk, J', hT, ⟨c1, r1⟩, hJ⟩ := hv
  dsimp only at hT c1 r1
  subst hT
  refine ⟨rOK_same, ?_⟩
  refine q_ist (L' := (5, .int (nI _)) :: Ln i) dL_law_1237 (by decide) rfl ?_
  refine q_aload_n (x := 405) dL_law_1239 rfl (q_arg (j := 1) F hi hN (by decide) dL_law_1240 dL_law_1241 dL_law_1243 dL_law_1244 dL_law_1245 rfl rfl (q_callV (h := 405) (As := [.int (xs (i + 1))]) (st := []) iv_9_180 dL_law_1246 (by unfold rmP; decide) rfl (show 0 ≤ 8 by decide) (Nat.zero_le _) (Nat.zero_le _) (show 405 < 428 by decide) rfl (op.2.1 J' V' c1 r1) (fun v M' hv => ?_) (fun E M' z => z.2.elim)))
  obtain ⟨T', V''⟩ := M'
  obtain ⟨hT, ⟨z, rfl, hz⟩, hth, c2, r2⟩ := hv
  dsimp only at hT hth c2 r2
  subst hT
  refine ⟨rOK_same, ?_⟩
  refine q_ist (L' := (6, .int z) :: (5, .int (nI _)) :: Ln i) dL_law_1249 (by decide) rfl ?_
  have fin : ∀ k9 : Nat, WLs p l e s m args below meth c G ad0 M0 A Z mL_law 1279 ((6, .int z) :: (5, .int (nI k9)) :: Ln i) [] (T0 J', V'') (bc - 2) (bs - 12) := fun k9 => q_goto (tgt := 2129) dL_law_1279 rfl (q_loc (fun r hr => List.mem_cons_of_mem _ (List.mem_cons_of_mem _ hr)) (K J' V'' _ _ _ c2 r2 (op.2.2 B hB) (by omega) (by omega)))
  exact law_tail dL_law_1251 dL_law_1252 dL_law_1255 dL_law_1257 dL_law_1262 dL_law_1264 rfl rfl rfl hk hth (fin _) (fun h0 => law_same dL_law_1267 dL_law_1268 dL_law_1269 dL_law_1270 dL_law_1272 dL_law_1273 dL_law_1274 rfl rfl ((hJ h0).trans (by rw [hz h0])) (fin _))
theorem cs_hasReview {i B m9 bc bs : Nat} {J : Nat → Nat → Int64} {V : Mem} {q : LSt} (F : SC N xs s G A) (hi : i + 6 ≤ N) (hN : N ≤ 3072) (I : clS V q) (R : rfS V q) (hB : bddL q.2.2.1 B) (hB9 : B ≤ 1000000000) (hbc : 10 * m9 + 10 ≤ bc) (hbs : 60 * m9 + 60 ≤ bs) (K : ∀ (J' : Nat → Nat → Int64) (V' : Mem) (q' : LSt) (bc' bs' : Nat), clS V' q' → rfS V' q' → bddL q'.2.2.1 (B + 400000) → 10 * m9 ≤ bc' → 60 * m9 ≤ bs' → WLs p l e s m args below meth c G ad0 M0 A Z mL_law 2129 (Ln i) [] (T0 J', V') bc' bs') : WLs p l e s m args below meth c G ad0 M0 A Z mL_law 1282 (Ln i) [] (T0 J, V) bc bs := by
  have op := op_hasReview q I.1.2 (xs (i + 1))
  refine q_aload_n (x := 0) dL_law_1282 rfl (q_arg (j := 1) F hi hN (by decide) dL_law_1283 dL_law_1284 dL_law_1286 dL_law_1287 dL_law_1288 rfl rfl (q_aload_n (x := 427) dL_law_1289 rfl (q_callSW (As := [.ref 0, .int (xs (i + 1)), .ref 427]) (st := []) pL_hasReview rfl (TBg_of (w := Cond.methodLink (fC 9) 181 yL_hasReview) (i := 1049) (by decide +kernel) (by decide +kernel)) (TBg_of (w := Cond.static yL_hasReview) (i := 1050) (by decide +kernel) (by decide +kernel)) dL_law_1290 (by unfold rmP; decide) rfl (show 0 ≤ 8 by decide) (show 2 ≤ bc by omega) (show 12 ≤ bs by omega) (w_hasReview _ (decide (q.1.1 (7 + (xs (i + 1)).toNatClampNeg) = 0)) (op.1 J V I R)) (fun v M' hv => ?_) (fun E M' z => z.elim))))
  obtain ⟨T', V'⟩ := M'
  obtain ⟨rfl, hk, J', hT, ⟨c1, r1⟩, hJ⟩ := hv
  dsimp only at hT c1 r1
  subst hT
  refine ⟨rOK_same, ?_⟩
  refine q_ist (L' := (5, .int (nI _)) :: Ln i) dL_law_1293 (by decide) rfl ?_
  refine q_aload_n (x := 405) dL_law_1295 rfl (q_arg (j := 1) F hi hN (by decide) dL_law_1296 dL_law_1297 dL_law_1299 dL_law_1300 dL_law_1301 rfl rfl (q_callV (h := 405) (As := [.int (xs (i + 1))]) (st := []) iv_9_183 dL_law_1302 (by unfold rmP; decide) rfl (show 0 ≤ 8 by decide) (Nat.zero_le _) (Nat.zero_le _) (show 405 < 428 by decide) rfl (op.2.1 J' V' c1 r1) (fun v M' hv => ?_) (fun E M' z => z.2.elim)))
  obtain ⟨T', V''⟩ := M'
  obtain ⟨hT, ⟨z, rfl, hz⟩, hth, c2, r2⟩ := hv
  dsimp only at hT hth c2 r2
  subst hT
  refine ⟨rOK_same, ?_⟩
  refine q_ist (L' := (6, .int z) :: (5, .int (nI _)) :: Ln i) dL_law_1305 (by decide) rfl ?_
  have fin : ∀ k9 : Nat, WLs p l e s m args below meth c G ad0 M0 A Z mL_law 1342 ((6, .int z) :: (5, .int (nI k9)) :: Ln i) [] (T0 J', V'') (bc - 2) (bs - 12) := fun k9 => q_goto (tgt := 2129) dL_law_1342 rfl (q_loc (fun r hr => List.mem_cons_of_mem _ (List.mem_cons_of_mem _ hr)) (K J' V'' _ _ _ c2 r2 (op.2.2 B hB) (by omega) (by omega)))
  refine law_tail dL_law_1307 dL_law_1308 dL_law_1311 dL_law_1313 dL_law_1318 dL_law_1320 rfl rfl rfl hk hth (fin _) (fun h0 => ?_)
  refine q_aload_n (x := 427) dL_law_1323 rfl (q_iconst (v := 0) dL_law_1324 rfl (q_lald (h := 427) dL_law_1325 (show 427 < 428 by decide) rfl vp01 ?_))
  show WLs p l e s m args below meth c G ad0 M0 A Z mL_law 1326 _ [.long (J' 427 0)] (T0 J', V'') _ _
  rw [hJ h0]
  have hz := hz h0
  generalize decide (q.1.1 (7 + (xs (i + 1)).toNatClampNeg) = 0) = bb at hz ⊢
  subst hz
  refine q_iload (x := bI bb) dL_law_1326 rfl (q_if_eq (tgt := 1335) dL_law_1328 rfl (fun z0 => q_lconst (v := 0) dL_law_1335 rfl ?_) (fun z0 => q_lconst (v := 1) dL_law_1331 rfl (q_goto (tgt := 1336) dL_law_1332 rfl ?_)))
  · rw [bI_f z0] at fin ⊢
    exact q_lcmp dL_law_1336 (q_if_eq (tgt := 1342) dL_law_1337 rfl (fun _ => fin _) (fun z1 => (z1 (by decide)).elim))
  · rw [bI_t z0] at fin ⊢
    exact q_lcmp dL_law_1336 (q_if_eq (tgt := 1342) dL_law_1337 rfl (fun _ => fin _) (fun z1 => (z1 (by decide)).elim))
theorem cs_matAfter {i B m9 bc bs : Nat} {J : Nat → Nat → Int64} {V : Mem} {q : LSt} (F : SC N xs s G A) (hi : i + 6 ≤ N) (hN : N ≤ 3072) (I : clS V q) (R : rfS V q) (hB : bddL q.2.2.1 B) (hB9 : B ≤ 1000000000) (hbc : 10 * m9 + 10 ≤ bc) (hbs : 60 * m9 + 60 ≤ bs) (K : ∀ (J' : Nat → Nat → Int64) (V' : Mem) (q' : LSt) (bc' bs' : Nat), clS V' q' → rfS V' q' → bddL q'.2.2.1 (B + 400000) → 10 * m9 ≤ bc' → 60 * m9 ≤ bs' → WLs p l e s m args below meth c G ad0 M0 A Z mL_law 2129 (Ln i) [] (T0 J', V') bc' bs') : WLs p l e s m args below meth c G ad0 M0 A Z mL_law 1345 (Ln i) [] (T0 J, V) bc bs := by
  have op := op_matAfter q I.1.2 (xs (i + 1)) (xs (i + 2))
  refine q_aload_n (x := 0) dL_law_1345 rfl (q_arg (j := 1) F hi hN (by decide) dL_law_1346 dL_law_1347 dL_law_1349 dL_law_1350 dL_law_1351 rfl rfl (q_arg (j := 2) F hi hN (by decide) dL_law_1352 dL_law_1353 dL_law_1355 dL_law_1356 dL_law_1357 rfl rfl (q_aload_n (x := 427) dL_law_1358 rfl (q_callSW (As := [.ref 0, .int (xs (i + 1)), .int (xs (i + 2)), .ref 427]) (st := []) pL_matAfter rfl (TBg_of (w := Cond.methodLink (fC 9) 184 yL_matAfter) (i := 1056) (by decide +kernel) (by decide +kernel)) (TBg_of (w := Cond.static yL_matAfter) (i := 1057) (by decide +kernel) (by decide +kernel)) dL_law_1359 (by unfold rmP; decide) rfl (show 0 ≤ 8 by decide) (show 2 ≤ bc by omega) (show 12 ≤ bs by omega) (w_matAfter _ _ _ (op.1 J V I R)) (fun v M' hv => ?_) (fun E M' z => z.elim)))))
  obtain ⟨T', V'⟩ := M'
  obtain ⟨rfl, hk, J', hT, ⟨c1, r1⟩, hJ⟩ := hv
  dsimp only at hT c1 r1
  subst hT
  refine ⟨rOK_same, ?_⟩
  refine q_ist (L' := (5, .int (nI _)) :: Ln i) dL_law_1362 (by decide) rfl ?_
  refine q_aload_n (x := 405) dL_law_1364 rfl (q_arg (j := 1) F hi hN (by decide) dL_law_1365 dL_law_1366 dL_law_1368 dL_law_1369 dL_law_1370 rfl rfl (q_arg (j := 2) F hi hN (by decide) dL_law_1371 dL_law_1372 dL_law_1374 dL_law_1375 dL_law_1376 rfl rfl (q_callV (h := 405) (As := [.int (xs (i + 1)), .int (xs (i + 2))]) (st := []) iv_9_186 dL_law_1377 (by unfold rmP; decide) rfl (show 0 ≤ 8 by decide) (Nat.zero_le _) (Nat.zero_le _) (show 405 < 428 by decide) rfl (op.2.1 J' V' c1 r1) (fun v M' hv => ?_) (fun E M' z => z.2.elim))))
  obtain ⟨T', V''⟩ := M'
  obtain ⟨hT, ⟨z, rfl, hz⟩, hth, c2, r2⟩ := hv
  dsimp only at hT hth c2 r2
  subst hT
  refine ⟨rOK_same, ?_⟩
  refine q_ist (L' := (6, .int z) :: (5, .int (nI _)) :: Ln i) dL_law_1380 (by decide) rfl ?_
  have fin : ∀ k9 : Nat, WLs p l e s m args below meth c G ad0 M0 A Z mL_law 1410 ((6, .int z) :: (5, .int (nI k9)) :: Ln i) [] (T0 J', V'') (bc - 2) (bs - 12) := fun k9 => q_goto (tgt := 2129) dL_law_1410 rfl (q_loc (fun r hr => List.mem_cons_of_mem _ (List.mem_cons_of_mem _ hr)) (K J' V'' _ _ _ c2 r2 (op.2.2 B hB) (by omega) (by omega)))
  exact law_tail dL_law_1382 dL_law_1383 dL_law_1386 dL_law_1388 dL_law_1393 dL_law_1395 rfl rfl rfl hk hth (fin _) (fun h0 => law_same dL_law_1398 dL_law_1399 dL_law_1400 dL_law_1401 dL_law_1403 dL_law_1404 dL_law_1405 rfl rfl ((hJ h0).trans (by rw [hz h0])) (fin _))
theorem cs_matAnew {i B m9 bc bs : Nat} {J : Nat → Nat → Int64} {V : Mem} {q : LSt} (F : SC N xs s G A) (hi : i + 6 ≤ N) (hN : N ≤ 3072) (I : clS V q) (R : rfS V q) (hB : bddL q.2.2.1 B) (hB9 : B ≤ 1000000000) (hbc : 10 * m9 + 10 ≤ bc) (hbs : 60 * m9 + 60 ≤ bs) (K : ∀ (J' : Nat → Nat → Int64) (V' : Mem) (q' : LSt) (bc' bs' : Nat), clS V' q' → rfS V' q' → bddL q'.2.2.1 (B + 400000) → 10 * m9 ≤ bc' → 60 * m9 ≤ bs' → WLs p l e s m args below meth c G ad0 M0 A Z mL_law 2129 (Ln i) [] (T0 J', V') bc' bs') : WLs p l e s m args below meth c G ad0 M0 A Z mL_law 1413 (Ln i) [] (T0 J, V) bc bs := by
  have op := op_matAnew q I.1.2 (xs (i + 1)) (xs (i + 2))
  refine q_aload_n (x := 0) dL_law_1413 rfl (q_arg (j := 1) F hi hN (by decide) dL_law_1414 dL_law_1415 dL_law_1417 dL_law_1418 dL_law_1419 rfl rfl (q_arg (j := 2) F hi hN (by decide) dL_law_1420 dL_law_1421 dL_law_1423 dL_law_1424 dL_law_1425 rfl rfl (q_aload_n (x := 427) dL_law_1426 rfl (q_callSW (As := [.ref 0, .int (xs (i + 1)), .int (xs (i + 2)), .ref 427]) (st := []) pL_matAnew rfl (TBg_of (w := Cond.methodLink (fC 9) 187 yL_matAnew) (i := 1075) (by decide +kernel) (by decide +kernel)) (TBg_of (w := Cond.static yL_matAnew) (i := 1076) (by decide +kernel) (by decide +kernel)) dL_law_1427 (by unfold rmP; decide) rfl (show 0 ≤ 8 by decide) (show 2 ≤ bc by omega) (show 12 ≤ bs by omega) (w_matAnew _ _ _ (op.1 J V I R)) (fun v M' hv => ?_) (fun E M' z => z.elim)))))
  obtain ⟨T', V'⟩ := M'
  obtain ⟨rfl, hk, J', hT, ⟨c1, r1⟩, hJ⟩ := hv
  dsimp only at hT c1 r1
  subst hT
  refine ⟨rOK_same, ?_⟩
  refine q_ist (L' := (5, .int (nI _)) :: Ln i) dL_law_1430 (by decide) rfl ?_
  refine q_aload_n (x := 405) dL_law_1432 rfl (q_arg (j := 1) F hi hN (by decide) dL_law_1433 dL_law_1434 dL_law_1436 dL_law_1437 dL_law_1438 rfl rfl (q_arg (j := 2) F hi hN (by decide) dL_law_1439 dL_law_1440 dL_law_1442 dL_law_1443 dL_law_1444 rfl rfl (q_callV (h := 405) (As := [.int (xs (i + 1)), .int (xs (i + 2))]) (st := []) iv_9_189 dL_law_1445 (by unfold rmP; decide) rfl (show 0 ≤ 8 by decide) (Nat.zero_le _) (Nat.zero_le _) (show 405 < 428 by decide) rfl (op.2.1 J' V' c1 r1) (fun v M' hv => ?_) (fun E M' z => z.2.elim))))
  obtain ⟨T', V''⟩ := M'
  obtain ⟨hT, ⟨z, rfl, hz⟩, hth, c2, r2⟩ := hv
  dsimp only at hT hth c2 r2
  subst hT
  refine ⟨rOK_same, ?_⟩
  refine q_ist (L' := (6, .int z) :: (5, .int (nI _)) :: Ln i) dL_law_1448 (by decide) rfl ?_
  have fin : ∀ k9 : Nat, WLs p l e s m args below meth c G ad0 M0 A Z mL_law 1478 ((6, .int z) :: (5, .int (nI k9)) :: Ln i) [] (T0 J', V'') (bc - 2) (bs - 12) := fun k9 => q_goto (tgt := 2129) dL_law_1478 rfl (q_loc (fun r hr => List.mem_cons_of_mem _ (List.mem_cons_of_mem _ hr)) (K J' V'' _ _ _ c2 r2 (op.2.2 B hB) (by omega) (by omega)))
  exact law_tail dL_law_1450 dL_law_1451 dL_law_1454 dL_law_1456 dL_law_1461 dL_law_1463 rfl rfl rfl hk hth (fin _) (fun h0 => law_same dL_law_1466 dL_law_1467 dL_law_1468 dL_law_1469 dL_law_1471 dL_law_1472 dL_law_1473 rfl rfl ((hJ h0).trans (by rw [hz h0])) (fin _))
theorem cs_pointsAfter {i B m9 bc bs : Nat} {J : Nat → Nat → Int64} {V : Mem} {q : LSt} (F : SC N xs s G A) (hi : i + 6 ≤ N) (hN : N ≤ 3072) (I : clS V q) (R : rfS V q) (hB : bddL q.2.2.1 B) (hB9 : B ≤ 1000000000) (hbc : 10 * m9 + 10 ≤ bc) (hbs : 60 * m9 + 60 ≤ bs) (K : ∀ (J' : Nat → Nat → Int64) (V' : Mem) (q' : LSt) (bc' bs' : Nat), clS V' q' → rfS V' q' → bddL q'.2.2.1 (B + 400000) → 10 * m9 ≤ bc' → 60 * m9 ≤ bs' → WLs p l e s m args below meth c G ad0 M0 A Z mL_law 2129 (Ln i) [] (T0 J', V') bc' bs') : WLs p l e s m args below meth c G ad0 M0 A Z mL_law 1481 (Ln i) [] (T0 J, V) bc bs := by
  have op := op_pointsAfter q I.1.2 (xs (i + 1)) (xs (i + 2))
  refine q_aload_n (x := 0) dL_law_1481 rfl (q_arg (j := 1) F hi hN (by decide) dL_law_1482 dL_law_1483 dL_law_1485 dL_law_1486 dL_law_1487 rfl rfl (q_arg (j := 2) F hi hN (by decide) dL_law_1488 dL_law_1489 dL_law_1491 dL_law_1492 dL_law_1493 rfl rfl (q_aload_n (x := 427) dL_law_1494 rfl (q_callSW (As := [.ref 0, .int (xs (i + 1)), .int (xs (i + 2)), .ref 427]) (st := []) pL_pointsAfter rfl (TBg_of (w := Cond.methodLink (fC 9) 190 yL_pointsAfter) (i := 1087) (by decide +kernel) (by decide +kernel)) (TBg_of (w := Cond.static yL_pointsAfter) (i := 1088) (by decide +kernel) (by decide +kernel)) dL_law_1495 (by unfold rmP; decide) rfl (show 0 ≤ 8 by decide) (show 2 ≤ bc by omega) (show 12 ≤ bs by omega) (w_pointsAfter _ _ _ (op.1 J V I R)) (fun v M' hv => ?_) (fun E M' z => z.elim)))))
  obtain ⟨T', V'⟩ := M'
  obtain ⟨rfl, hk, J', hT, ⟨c1, r1⟩, hJ⟩ := hv
  dsimp only at hT c1 r1
  subst hT
  refine ⟨rOK_same, ?_⟩
  refine q_ist (L' := (5, .int (nI _)) :: Ln i) dL_law_1498 (by decide) rfl ?_
  refine q_aload_n (x := 405) dL_law_1500 rfl (q_arg (j := 1) F hi hN (by decide) dL_law_1501 dL_law_1502 dL_law_1504 dL_law_1505 dL_law_1506 rfl rfl (q_arg (j := 2) F hi hN (by decide) dL_law_1507 dL_law_1508 dL_law_1510 dL_law_1511 dL_law_1512 rfl rfl (q_callV (h := 405) (As := [.int (xs (i + 1)), .int (xs (i + 2))]) (st := []) iv_9_192 dL_law_1513 (by unfold rmP; decide) rfl (show 0 ≤ 8 by decide) (Nat.zero_le _) (Nat.zero_le _) (show 405 < 428 by decide) rfl (op.2.1 J' V' c1 r1) (fun v M' hv => ?_) (fun E M' z => z.2.elim))))
  obtain ⟨T', V''⟩ := M'
  obtain ⟨hT, ⟨z, rfl, hz⟩, hth, c2, r2⟩ := hv
  dsimp only at hT hth c2 r2
  subst hT
  refine ⟨rOK_same, ?_⟩
  refine q_ist (L' := (6, .int z) :: (5, .int (nI _)) :: Ln i) dL_law_1516 (by decide) rfl ?_
  have fin : ∀ k9 : Nat, WLs p l e s m args below meth c G ad0 M0 A Z mL_law 1546 ((6, .int z) :: (5, .int (nI k9)) :: Ln i) [] (T0 J', V'') (bc - 2) (bs - 12) := fun k9 => q_goto (tgt := 2129) dL_law_1546 rfl (q_loc (fun r hr => List.mem_cons_of_mem _ (List.mem_cons_of_mem _ hr)) (K J' V'' _ _ _ c2 r2 (op.2.2 B hB) (by omega) (by omega)))
  exact law_tail dL_law_1518 dL_law_1519 dL_law_1522 dL_law_1524 dL_law_1529 dL_law_1531 rfl rfl rfl hk hth (fin _) (fun h0 => law_same dL_law_1534 dL_law_1535 dL_law_1536 dL_law_1537 dL_law_1539 dL_law_1540 dL_law_1541 rfl rfl ((hJ h0).trans (by rw [hz h0])) (fin _))
theorem cs_raidPoints {i B m9 bc bs : Nat} {J : Nat → Nat → Int64} {V : Mem} {q : LSt} (F : SC N xs s G A) (hi : i + 6 ≤ N) (hN : N ≤ 3072) (I : clS V q) (R : rfS V q) (hB : bddL q.2.2.1 B) (hB9 : B ≤ 1000000000) (hbc : 10 * m9 + 10 ≤ bc) (hbs : 60 * m9 + 60 ≤ bs) (K : ∀ (J' : Nat → Nat → Int64) (V' : Mem) (q' : LSt) (bc' bs' : Nat), clS V' q' → rfS V' q' → bddL q'.2.2.1 (B + 400000) → 10 * m9 ≤ bc' → 60 * m9 ≤ bs' → WLs p l e s m args below meth c G ad0 M0 A Z mL_law 2129 (Ln i) [] (T0 J', V') bc' bs') : WLs p l e s m args below meth c G ad0 M0 A Z mL_law 1549 (Ln i) [] (T0 J, V) bc bs := by
  have op := op_raidPoints q I.1.2 (xs (i + 1)) (xs (i + 2))
  refine q_aload_n (x := 0) dL_law_1549 rfl (q_arg (j := 1) F hi hN (by decide) dL_law_1550 dL_law_1551 dL_law_1553 dL_law_1554 dL_law_1555 rfl rfl (q_arg (j := 2) F hi hN (by decide) dL_law_1556 dL_law_1557 dL_law_1559 dL_law_1560 dL_law_1561 rfl rfl (q_aload_n (x := 427) dL_law_1562 rfl (q_callSW (As := [.ref 0, .int (xs (i + 1)), .int (xs (i + 2)), .ref 427]) (st := []) pL_raidPoints rfl (TBg_of (w := Cond.methodLink (fC 9) 193 yL_raidPoints) (i := 1102) (by decide +kernel) (by decide +kernel)) (TBg_of (w := Cond.static yL_raidPoints) (i := 1103) (by decide +kernel) (by decide +kernel)) dL_law_1563 (by unfold rmP; decide) rfl (show 0 ≤ 8 by decide) (show 3 ≤ bc by omega) (show 18 ≤ bs by omega) (w_raidPoints _ _ _ (op.1 J V I R)) (fun v M' hv => ?_) (fun E M' z => z.elim)))))
  obtain ⟨T', V'⟩ := M'
  obtain ⟨rfl, hk, J', hT, ⟨c1, r1⟩, hJ⟩ := hv
  dsimp only at hT c1 r1
  subst hT
  refine ⟨rOK_same, ?_⟩
  refine q_ist (L' := (5, .int (nI _)) :: Ln i) dL_law_1566 (by decide) rfl ?_
  refine q_aload_n (x := 405) dL_law_1568 rfl (q_arg (j := 1) F hi hN (by decide) dL_law_1569 dL_law_1570 dL_law_1572 dL_law_1573 dL_law_1574 rfl rfl (q_arg (j := 2) F hi hN (by decide) dL_law_1575 dL_law_1576 dL_law_1578 dL_law_1579 dL_law_1580 rfl rfl (q_callV (h := 405) (As := [.int (xs (i + 1)), .int (xs (i + 2))]) (st := []) iv_9_195 dL_law_1581 (by unfold rmP; decide) rfl (show 0 ≤ 8 by decide) (Nat.zero_le _) (Nat.zero_le _) (show 405 < 428 by decide) rfl (op.2.1 J' V' c1 r1) (fun v M' hv => ?_) (fun E M' z => z.2.elim))))
  obtain ⟨T', V''⟩ := M'
  obtain ⟨hT, ⟨z, rfl, hz⟩, hth, c2, r2⟩ := hv
  dsimp only at hT hth c2 r2
  subst hT
  refine ⟨rOK_same, ?_⟩
  refine q_ist (L' := (6, .int z) :: (5, .int (nI _)) :: Ln i) dL_law_1584 (by decide) rfl ?_
  have fin : ∀ k9 : Nat, WLs p l e s m args below meth c G ad0 M0 A Z mL_law 1614 ((6, .int z) :: (5, .int (nI k9)) :: Ln i) [] (T0 J', V'') (bc - 3) (bs - 18) := fun k9 => q_goto (tgt := 2129) dL_law_1614 rfl (q_loc (fun r hr => List.mem_cons_of_mem _ (List.mem_cons_of_mem _ hr)) (K J' V'' _ _ _ c2 r2 (op.2.2 B hB) (by omega) (by omega)))
  exact law_tail dL_law_1586 dL_law_1587 dL_law_1590 dL_law_1592 dL_law_1597 dL_law_1599 rfl rfl rfl hk hth (fin _) (fun h0 => law_same dL_law_1602 dL_law_1603 dL_law_1604 dL_law_1605 dL_law_1607 dL_law_1608 dL_law_1609 rfl rfl ((hJ h0).trans (by rw [hz h0])) (fin _))
theorem cs_club {i B m9 bc bs : Nat} {J : Nat → Nat → Int64} {V : Mem} {q : LSt} (F : SC N xs s G A) (hi : i + 6 ≤ N) (hN : N ≤ 3072) (I : clS V q) (R : rfS V q) (hB : bddL q.2.2.1 B) (hB9 : B ≤ 1000000000) (hbc : 10 * m9 + 10 ≤ bc) (hbs : 60 * m9 + 60 ≤ bs) (K : ∀ (J' : Nat → Nat → Int64) (V' : Mem) (q' : LSt) (bc' bs' : Nat), clS V' q' → rfS V' q' → bddL q'.2.2.1 (B + 400000) → 10 * m9 ≤ bc' → 60 * m9 ≤ bs' → WLs p l e s m args below meth c G ad0 M0 A Z mL_law 2129 (Ln i) [] (T0 J', V') bc' bs') : WLs p l e s m args below meth c G ad0 M0 A Z mL_law 1617 (Ln i) [] (T0 J, V) bc bs := by
  have op := op_club q (fun k hk => Nat.le_trans (hB k hk) hB9) (xs (i + 1)) (xs (i + 2))
  refine q_aload_n (x := 0) dL_law_1617 rfl (q_arg (j := 1) F hi hN (by decide) dL_law_1618 dL_law_1619 dL_law_1621 dL_law_1622 dL_law_1623 rfl rfl (q_arg (j := 2) F hi hN (by decide) dL_law_1624 dL_law_1625 dL_law_1627 dL_law_1628 dL_law_1629 rfl rfl (q_aload_n (x := 427) dL_law_1630 rfl (q_callSW (As := [.ref 0, .int (xs (i + 1)), .int (xs (i + 2)), .ref 427]) (st := []) pL_club rfl (TBg_of (w := Cond.methodLink (fC 9) 196 yL_club) (i := 1113) (by decide +kernel) (by decide +kernel)) (TBg_of (w := Cond.static yL_club) (i := 1114) (by decide +kernel) (by decide +kernel)) dL_law_1631 (by unfold rmP; decide) rfl (show 0 ≤ 8 by decide) (show 2 ≤ bc by omega) (show 12 ≤ bs by omega) (w_club _ _ _ (op.1 J V I R)) (fun v M' hv => ?_) (fun E M' z => z.elim)))))
  obtain ⟨T', V'⟩ := M'
  obtain ⟨rfl, hk, J', hT, ⟨c1, r1⟩, hJ⟩ := hv
  dsimp only at hT c1 r1
  subst hT
  refine ⟨rOK_same, ?_⟩
  refine q_ist (L' := (5, .int (nI _)) :: Ln i) dL_law_1634 (by decide) rfl ?_
  refine q_aload_n (x := 405) dL_law_1636 rfl (q_arg (j := 1) F hi hN (by decide) dL_law_1637 dL_law_1638 dL_law_1640 dL_law_1641 dL_law_1642 rfl rfl (q_arg (j := 2) F hi hN (by decide) dL_law_1643 dL_law_1644 dL_law_1646 dL_law_1647 dL_law_1648 rfl rfl (q_callV (h := 405) (As := [.int (xs (i + 1)), .int (xs (i + 2))]) (st := []) iv_9_198 dL_law_1649 (by unfold rmP; decide) rfl (show 0 ≤ 8 by decide) (Nat.zero_le _) (Nat.zero_le _) (show 405 < 428 by decide) rfl (op.2.1 J' V' c1 r1) (fun v M' hv => ?_) (fun E M' z => z.2.elim))))
  obtain ⟨T', V''⟩ := M'
  obtain ⟨hT, ⟨z, rfl, hz⟩, hth, c2, r2⟩ := hv
  dsimp only at hT hth c2 r2
  subst hT
  refine ⟨rOK_same, ?_⟩
  refine q_ist (L' := (6, .int z) :: (5, .int (nI _)) :: Ln i) dL_law_1652 (by decide) rfl ?_
  have fin : ∀ k9 : Nat, WLs p l e s m args below meth c G ad0 M0 A Z mL_law 1682 ((6, .int z) :: (5, .int (nI k9)) :: Ln i) [] (T0 J', V'') (bc - 2) (bs - 12) := fun k9 => q_goto (tgt := 2129) dL_law_1682 rfl (q_loc (fun r hr => List.mem_cons_of_mem _ (List.mem_cons_of_mem _ hr)) (K J' V'' _ _ _ c2 r2 (op.2.2 B hB) (by omega) (by omega)))
  exact law_tail dL_law_1654 dL_law_1655 dL_law_1658 dL_law_1660 dL_law_1665 dL_law_1667 rfl rfl rfl hk hth (fin _) (fun h0 => law_same dL_law_1670 dL_law_1671 dL_law_1672 dL_law_1673 dL_law_1675 dL_law_1676 dL_law_1677 rfl rfl ((hJ h0).trans (by rw [hz h0])) (fin _))
theorem cs_right {i B m9 bc bs : Nat} {J : Nat → Nat → Int64} {V : Mem} {q : LSt} (F : SC N xs s G A) (hi : i + 6 ≤ N) (hN : N ≤ 3072) (I : clS V q) (R : rfS V q) (hB : bddL q.2.2.1 B) (hB9 : B ≤ 1000000000) (hbc : 10 * m9 + 10 ≤ bc) (hbs : 60 * m9 + 60 ≤ bs) (K : ∀ (J' : Nat → Nat → Int64) (V' : Mem) (q' : LSt) (bc' bs' : Nat), clS V' q' → rfS V' q' → bddL q'.2.2.1 (B + 400000) → 10 * m9 ≤ bc' → 60 * m9 ≤ bs' → WLs p l e s m args below meth c G ad0 M0 A Z mL_law 2129 (Ln i) [] (T0 J', V') bc' bs') : WLs p l e s m args below meth c G ad0 M0 A Z mL_law 1685 (Ln i) [] (T0 J, V) bc bs := by
  have op := op_right q I.2.1.2 (xs (i + 1)) (xs (i + 2))
  refine q_aload_n (x := 0) dL_law_1685 rfl (q_arg (j := 1) F hi hN (by decide) dL_law_1686 dL_law_1687 dL_law_1689 dL_law_1690 dL_law_1691 rfl rfl (q_arg (j := 2) F hi hN (by decide) dL_law_1692 dL_law_1693 dL_law_1695 dL_law_1696 dL_law_1697 rfl rfl (q_aload_n (x := 427) dL_law_1698 rfl (q_callSW (As := [.ref 0, .int (xs (i + 1)), .int (xs (i + 2)), .ref 427]) (st := []) pL_right rfl (TBg_of (w := Cond.methodLink (fC 9) 199 yL_right) (i := 1140) (by decide +kernel) (by decide +kernel)) (TBg_of (w := Cond.static yL_right) (i := 1141) (by decide +kernel) (by decide +kernel)) dL_law_1699 (by unfold rmP; decide) rfl (show 0 ≤ 8 by decide) (show 3 ≤ bc by omega) (show 18 ≤ bs by omega) (w_right _ _ _ (op.1 J V I R)) (fun v M' hv => ?_) (fun E M' z => z.elim)))))
  obtain ⟨T', V'⟩ := M'
  obtain ⟨rfl, hk, J', hT, ⟨c1, r1⟩, hJ⟩ := hv
  dsimp only at hT c1 r1
  subst hT
  refine ⟨rOK_same, ?_⟩
  refine q_ist (L' := (5, .int (nI _)) :: Ln i) dL_law_1702 (by decide) rfl ?_
  refine q_aload_n (x := 405) dL_law_1704 rfl (q_arg (j := 1) F hi hN (by decide) dL_law_1705 dL_law_1706 dL_law_1708 dL_law_1709 dL_law_1710 rfl rfl (q_arg (j := 2) F hi hN (by decide) dL_law_1711 dL_law_1712 dL_law_1714 dL_law_1715 dL_law_1716 rfl rfl (q_callV (h := 405) (As := [.int (xs (i + 1)), .int (xs (i + 2))]) (st := []) iv_9_201 dL_law_1717 (by unfold rmP; decide) rfl (show 0 ≤ 8 by decide) (Nat.zero_le _) (Nat.zero_le _) (show 405 < 428 by decide) rfl (op.2.1 J' V' c1 r1) (fun v M' hv => ?_) (fun E M' z => z.2.elim))))
  obtain ⟨T', V''⟩ := M'
  obtain ⟨hT, ⟨z, rfl, hz⟩, hth, c2, r2⟩ := hv
  dsimp only at hT hth c2 r2
  subst hT
  refine ⟨rOK_same, ?_⟩
  refine q_ist (L' := (6, .int z) :: (5, .int (nI _)) :: Ln i) dL_law_1720 (by decide) rfl ?_
  have fin : ∀ k9 : Nat, WLs p l e s m args below meth c G ad0 M0 A Z mL_law 1750 ((6, .int z) :: (5, .int (nI k9)) :: Ln i) [] (T0 J', V'') (bc - 3) (bs - 18) := fun k9 => q_goto (tgt := 2129) dL_law_1750 rfl (q_loc (fun r hr => List.mem_cons_of_mem _ (List.mem_cons_of_mem _ hr)) (K J' V'' _ _ _ c2 r2 (op.2.2 B hB) (by omega) (by omega)))
  exact law_tail dL_law_1722 dL_law_1723 dL_law_1726 dL_law_1728 dL_law_1733 dL_law_1735 rfl rfl rfl hk hth (fin _) (fun h0 => law_same dL_law_1738 dL_law_1739 dL_law_1740 dL_law_1741 dL_law_1743 dL_law_1744 dL_law_1745 rfl rfl ((hJ h0).trans (by rw [hz h0])) (fin _))
theorem cs_call {i B m9 bc bs : Nat} {J : Nat → Nat → Int64} {V : Mem} {q : LSt} (F : SC N xs s G A) (hi : i + 6 ≤ N) (hN : N ≤ 3072) (I : clS V q) (R : rfS V q) (hB : bddL q.2.2.1 B) (hB9 : B ≤ 1000000000) (hbc : 10 * m9 + 10 ≤ bc) (hbs : 60 * m9 + 60 ≤ bs) (K : ∀ (J' : Nat → Nat → Int64) (V' : Mem) (q' : LSt) (bc' bs' : Nat), clS V' q' → rfS V' q' → bddL q'.2.2.1 (B + 400000) → 10 * m9 ≤ bc' → 60 * m9 ≤ bs' → WLs p l e s m args below meth c G ad0 M0 A Z mL_law 2129 (Ln i) [] (T0 J', V') bc' bs') : WLs p l e s m args below meth c G ad0 M0 A Z mL_law 1753 (Ln i) [] (T0 J, V) bc bs := by
  have op := op_call q I.2.1.2 (xs (i + 1))
  refine q_aload_n (x := 0) dL_law_1753 rfl (q_arg (j := 1) F hi hN (by decide) dL_law_1754 dL_law_1755 dL_law_1757 dL_law_1758 dL_law_1759 rfl rfl (q_aload_n (x := 427) dL_law_1760 rfl (q_callSW (As := [.ref 0, .int (xs (i + 1)), .ref 427]) (st := []) pL_call rfl (TBg_of (w := Cond.methodLink (fC 9) 202 yL_call) (i := 1166) (by decide +kernel) (by decide +kernel)) (TBg_of (w := Cond.static yL_call) (i := 1167) (by decide +kernel) (by decide +kernel)) dL_law_1761 (by unfold rmP; decide) rfl (show 0 ≤ 8 by decide) (show 2 ≤ bc by omega) (show 12 ≤ bs by omega) (w_call _ _ (op.1 J V I R)) (fun v M' hv => ?_) (fun E M' z => z.elim))))
  obtain ⟨T', V'⟩ := M'
  obtain ⟨rfl, hk, J', hT, ⟨c1, r1⟩, hJ⟩ := hv
  dsimp only at hT c1 r1
  subst hT
  refine ⟨rOK_same, ?_⟩
  refine q_ist (L' := (5, .int (nI _)) :: Ln i) dL_law_1764 (by decide) rfl ?_
  refine q_aload_n (x := 405) dL_law_1766 rfl (q_arg (j := 1) F hi hN (by decide) dL_law_1767 dL_law_1768 dL_law_1770 dL_law_1771 dL_law_1772 rfl rfl (q_callV (h := 405) (As := [.int (xs (i + 1))]) (st := []) iv_9_204 dL_law_1773 (by unfold rmP; decide) rfl (show 0 ≤ 8 by decide) (Nat.zero_le _) (Nat.zero_le _) (show 405 < 428 by decide) rfl (op.2.1 J' V' c1 r1) (fun v M' hv => ?_) (fun E M' z => z.2.elim)))
  obtain ⟨T', V''⟩ := M'
  obtain ⟨hT, ⟨z, rfl, hz⟩, hth, c2, r2⟩ := hv
  dsimp only at hT hth c2 r2
  subst hT
  refine ⟨rOK_same, ?_⟩
  refine q_ist (L' := (6, .int z) :: (5, .int (nI _)) :: Ln i) dL_law_1776 (by decide) rfl ?_
  have fin : ∀ k9 : Nat, WLs p l e s m args below meth c G ad0 M0 A Z mL_law 1806 ((6, .int z) :: (5, .int (nI k9)) :: Ln i) [] (T0 J', V'') (bc - 2) (bs - 12) := fun k9 => q_goto (tgt := 2129) dL_law_1806 rfl (q_loc (fun r hr => List.mem_cons_of_mem _ (List.mem_cons_of_mem _ hr)) (K J' V'' _ _ _ c2 r2 (op.2.2 B hB) (by omega) (by omega)))
  exact law_tail dL_law_1778 dL_law_1779 dL_law_1782 dL_law_1784 dL_law_1789 dL_law_1791 rfl rfl rfl hk hth (fin _) (fun h0 => law_same dL_law_1794 dL_law_1795 dL_law_1796 dL_law_1797 dL_law_1799 dL_law_1800 dL_law_1801 rfl rfl ((hJ h0).trans (by rw [hz h0])) (fin _))
theorem cs_bid {i B m9 bc bs : Nat} {J : Nat → Nat → Int64} {V : Mem} {q : LSt} (F : SC N xs s G A) (hi : i + 6 ≤ N) (hN : N ≤ 3072) (I : clS V q) (R : rfS V q) (hB : bddL q.2.2.1 B) (hB9 : B ≤ 1000000000) (hbc : 10 * m9 + 10 ≤ bc) (hbs : 60 * m9 + 60 ≤ bs) (K : ∀ (J' : Nat → Nat → Int64) (V' : Mem) (q' : LSt) (bc' bs' : Nat), clS V' q' → rfS V' q' → bddL q'.2.2.1 (B + 400000) → 10 * m9 ≤ bc' → 60 * m9 ≤ bs' → WLs p l e s m args below meth c G ad0 M0 A Z mL_law 2129 (Ln i) [] (T0 J', V') bc' bs') : WLs p l e s m args below meth c G ad0 M0 A Z mL_law 1809 (Ln i) [] (T0 J, V) bc bs := by
  have op := op_bid q I.2.1.2 (xs (i + 1)) (xs (i + 2))
  refine q_aload_n (x := 0) dL_law_1809 rfl (q_arg (j := 1) F hi hN (by decide) dL_law_1810 dL_law_1811 dL_law_1813 dL_law_1814 dL_law_1815 rfl rfl (q_arg (j := 2) F hi hN (by decide) dL_law_1816 dL_law_1817 dL_law_1819 dL_law_1820 dL_law_1821 rfl rfl (q_aload_n (x := 427) dL_law_1822 rfl (q_callSW (As := [.ref 0, .int (xs (i + 1)), .int (xs (i + 2)), .ref 427]) (st := []) pL_bid rfl (TBg_of (w := Cond.methodLink (fC 9) 205 yL_bid) (i := 1184) (by decide +kernel) (by decide +kernel)) (TBg_of (w := Cond.static yL_bid) (i := 1185) (by decide +kernel) (by decide +kernel)) dL_law_1823 (by unfold rmP; decide) rfl (show 0 ≤ 8 by decide) (show 3 ≤ bc by omega) (show 18 ≤ bs by omega) (w_bid _ _ _ (op.1 J V I R)) (fun v M' hv => ?_) (fun E M' z => z.elim)))))
  obtain ⟨T', V'⟩ := M'
  obtain ⟨rfl, hk, J', hT, ⟨c1, r1⟩, hJ⟩ := hv
  dsimp only at hT c1 r1
  subst hT
  refine ⟨rOK_same, ?_⟩
  refine q_ist (L' := (5, .int (nI _)) :: Ln i) dL_law_1826 (by decide) rfl ?_
  refine q_aload_n (x := 405) dL_law_1828 rfl (q_arg (j := 1) F hi hN (by decide) dL_law_1829 dL_law_1830 dL_law_1832 dL_law_1833 dL_law_1834 rfl rfl (q_arg (j := 2) F hi hN (by decide) dL_law_1835 dL_law_1836 dL_law_1838 dL_law_1839 dL_law_1840 rfl rfl (q_callV (h := 405) (As := [.int (xs (i + 1)), .int (xs (i + 2))]) (st := []) iv_9_207 dL_law_1841 (by unfold rmP; decide) rfl (show 0 ≤ 8 by decide) (Nat.zero_le _) (Nat.zero_le _) (show 405 < 428 by decide) rfl (op.2.1 J' V' c1 r1) (fun v M' hv => ?_) (fun E M' z => z.2.elim))))
  obtain ⟨T', V''⟩ := M'
  obtain ⟨hT, ⟨z, rfl, hz⟩, hth, c2, r2⟩ := hv
  dsimp only at hT hth c2 r2
  subst hT
  refine ⟨rOK_same, ?_⟩
  refine q_ist (L' := (6, .int z) :: (5, .int (nI _)) :: Ln i) dL_law_1844 (by decide) rfl ?_
  have fin : ∀ k9 : Nat, WLs p l e s m args below meth c G ad0 M0 A Z mL_law 1874 ((6, .int z) :: (5, .int (nI k9)) :: Ln i) [] (T0 J', V'') (bc - 3) (bs - 18) := fun k9 => q_goto (tgt := 2129) dL_law_1874 rfl (q_loc (fun r hr => List.mem_cons_of_mem _ (List.mem_cons_of_mem _ hr)) (K J' V'' _ _ _ c2 r2 (op.2.2 B hB) (by omega) (by omega)))
  exact law_tail dL_law_1846 dL_law_1847 dL_law_1850 dL_law_1852 dL_law_1857 dL_law_1859 rfl rfl rfl hk hth (fin _) (fun h0 => law_same dL_law_1862 dL_law_1863 dL_law_1864 dL_law_1865 dL_law_1867 dL_law_1868 dL_law_1869 rfl rfl ((hJ h0).trans (by rw [hz h0])) (fin _))
theorem cs_hammer {i B m9 bc bs : Nat} {J : Nat → Nat → Int64} {V : Mem} {q : LSt} (F : SC N xs s G A) (hi : i + 6 ≤ N) (hN : N ≤ 3072) (I : clS V q) (R : rfS V q) (hB : bddL q.2.2.1 B) (hB9 : B ≤ 1000000000) (hbc : 10 * m9 + 10 ≤ bc) (hbs : 60 * m9 + 60 ≤ bs) (K : ∀ (J' : Nat → Nat → Int64) (V' : Mem) (q' : LSt) (bc' bs' : Nat), clS V' q' → rfS V' q' → bddL q'.2.2.1 (B + 400000) → 10 * m9 ≤ bc' → 60 * m9 ≤ bs' → WLs p l e s m args below meth c G ad0 M0 A Z mL_law 2129 (Ln i) [] (T0 J', V') bc' bs') : WLs p l e s m args below meth c G ad0 M0 A Z mL_law 1877 (Ln i) [] (T0 J, V) bc bs := by
  have op := op_hammer q I.2.1.2 
  refine q_aload_n (x := 0) dL_law_1877 rfl (q_aload_n (x := 427) dL_law_1878 rfl (q_callSW (As := [.ref 0, .ref 427]) (st := []) pL_hammer rfl (TBg_of (w := Cond.methodLink (fC 9) 208 yL_hammer) (i := 1212) (by decide +kernel) (by decide +kernel)) (TBg_of (w := Cond.static yL_hammer) (i := 1213) (by decide +kernel) (by decide +kernel)) dL_law_1879 (by unfold rmP; decide) rfl (show 0 ≤ 8 by decide) (show 1 ≤ bc by omega) (show 6 ≤ bs by omega) (w_hammer  _ (op.1 J V I R)) (fun v M' hv => ?_) (fun E M' z => z.elim)))
  obtain ⟨T', V'⟩ := M'
  obtain ⟨rfl, hk, J', hT, ⟨c1, r1⟩, hJ⟩ := hv
  dsimp only at hT c1 r1
  subst hT
  refine ⟨rOK_same, ?_⟩
  refine q_ist (L' := (5, .int (nI _)) :: Ln i) dL_law_1882 (by decide) rfl ?_
  refine q_aload_n (x := 405) dL_law_1884 rfl (q_callV (h := 405) (As := []) (st := []) iv_9_210 dL_law_1885 (by unfold rmP; decide) rfl (show 0 ≤ 8 by decide) (Nat.zero_le _) (Nat.zero_le _) (show 405 < 428 by decide) rfl (op.2.1 J' V' c1 r1) (fun v M' hv => ?_) (fun E M' z => z.2.elim))
  obtain ⟨T', V''⟩ := M'
  obtain ⟨hT, ⟨z, rfl, hz⟩, hth, c2, r2⟩ := hv
  dsimp only at hT hth c2 r2
  subst hT
  refine ⟨rOK_same, ?_⟩
  refine q_ist (L' := (6, .int z) :: (5, .int (nI _)) :: Ln i) dL_law_1888 (by decide) rfl ?_
  have fin : ∀ k9 : Nat, WLs p l e s m args below meth c G ad0 M0 A Z mL_law 1918 ((6, .int z) :: (5, .int (nI k9)) :: Ln i) [] (T0 J', V'') (bc - 1) (bs - 6) := fun k9 => q_goto (tgt := 2129) dL_law_1918 rfl (q_loc (fun r hr => List.mem_cons_of_mem _ (List.mem_cons_of_mem _ hr)) (K J' V'' _ _ _ c2 r2 (op.2.2 B hB) (by omega) (by omega)))
  exact law_tail dL_law_1890 dL_law_1891 dL_law_1894 dL_law_1896 dL_law_1901 dL_law_1903 rfl rfl rfl hk hth (fin _) (fun h0 => law_same dL_law_1906 dL_law_1907 dL_law_1908 dL_law_1909 dL_law_1911 dL_law_1912 dL_law_1913 rfl rfl ((hJ h0).trans (by rw [hz h0])) (fin _))
theorem cs_answer {i B m9 bc bs : Nat} {J : Nat → Nat → Int64} {V : Mem} {q : LSt} (F : SC N xs s G A) (hi : i + 6 ≤ N) (hN : N ≤ 3072) (I : clS V q) (R : rfS V q) (hB : bddL q.2.2.1 B) (hB9 : B ≤ 1000000000) (hbc : 10 * m9 + 10 ≤ bc) (hbs : 60 * m9 + 60 ≤ bs) (K : ∀ (J' : Nat → Nat → Int64) (V' : Mem) (q' : LSt) (bc' bs' : Nat), clS V' q' → rfS V' q' → bddL q'.2.2.1 (B + 400000) → 10 * m9 ≤ bc' → 60 * m9 ≤ bs' → WLs p l e s m args below meth c G ad0 M0 A Z mL_law 2129 (Ln i) [] (T0 J', V') bc' bs') : WLs p l e s m args below meth c G ad0 M0 A Z mL_law 1921 (Ln i) [] (T0 J, V) bc bs := by
  obtain ⟨t, ht0, ht1⟩ : ∃ t : Bool, (xs (i + 1) = 0 → t = false) ∧ (¬ xs (i + 1) = 0 → t = true) := by
    by_cases z : xs (i + 1) = 0
    · exact ⟨false, fun _ => rfl, fun y => (y z).elim⟩
    · exact ⟨true, fun y => (z y).elim, fun _ => rfl⟩
  have op := op_answer q I.2.1.2 t
  refine q_aload_n (x := 0) dL_law_1921 rfl (q_arg (j := 1) F hi hN (by decide) dL_law_1922 dL_law_1923 dL_law_1925 dL_law_1926 dL_law_1927 rfl rfl ?_)
  have go : ∀ {V1 : Mem} {J1 : Nat → Nat → Int64} {b1 b2 : Nat}, WLs p l e s m args below meth c G ad0 M0 A Z mL_law 1936 (Ln i) [.int (bI t), .ref 0] (T0 J1, V1) b1 b2 → WLs p l e s m args below meth c G ad0 M0 A Z mL_law 1928 (Ln i) [.int (xs (i + 1)), .ref 0] (T0 J1, V1) b1 b2 := fun k9 => q_if_eq (tgt := 1935) dL_law_1928 rfl (fun z => q_iconst (v := bI t) dL_law_1935 (by rw [ht0 z]; rfl) k9) (fun z => q_iconst (v := bI t) dL_law_1931 (by rw [ht1 z]; rfl) (q_goto (tgt := 1936) dL_law_1932 rfl k9))
  refine go ?_
  refine q_aload_n (x := 427) dL_law_1936 rfl (q_callSW (As := [.ref 0, .int (bI t), .ref 427]) (st := []) pL_answer rfl (TBg_of (w := Cond.methodLink (fC 9) 211 yL_answer) (i := 1228) (by decide +kernel) (by decide +kernel)) (TBg_of (w := Cond.static yL_answer) (i := 1229) (by decide +kernel) (by decide +kernel)) dL_law_1937 (by unfold rmP; decide) rfl (show 0 ≤ 8 by decide) (show 1 ≤ bc by omega) (show 6 ≤ bs by omega) (w_answer t _ (op.1 J V I R)) (fun v M' hv => ?_) (fun E M' z => z.elim))
  obtain ⟨T', V'⟩ := M'
  obtain ⟨rfl, hk, J', hT, ⟨c1, r1⟩, hJ⟩ := hv
  dsimp only at hT c1 r1
  subst hT
  refine ⟨rOK_same, ?_⟩
  refine q_ist (L' := (5, .int (nI _)) :: Ln i) dL_law_1940 (by decide) rfl ?_
  refine q_aload_n (x := 405) dL_law_1942 rfl (q_arg (j := 1) F hi hN (by decide) dL_law_1943 dL_law_1944 dL_law_1946 dL_law_1947 dL_law_1948 rfl rfl ?_)
  have go2 : ∀ {L1 : List (Nat × Value)} {V1 : Mem} {J1 : Nat → Nat → Int64} {b1 b2 : Nat}, WLs p l e s m args below meth c G ad0 M0 A Z mL_law 1957 L1 [.int (bI t), .ref 405] (T0 J1, V1) b1 b2 → WLs p l e s m args below meth c G ad0 M0 A Z mL_law 1949 L1 [.int (xs (i + 1)), .ref 405] (T0 J1, V1) b1 b2 := fun k9 => q_if_eq (tgt := 1956) dL_law_1949 rfl (fun z => q_iconst (v := bI t) dL_law_1956 (by rw [ht0 z]; rfl) k9) (fun z => q_iconst (v := bI t) dL_law_1952 (by rw [ht1 z]; rfl) (q_goto (tgt := 1957) dL_law_1953 rfl k9))
  refine go2 (q_callV (h := 405) (As := [.int (bI t)]) (st := []) iv_9_214 dL_law_1957 (by unfold rmP; decide) rfl (show 0 ≤ 8 by decide) (Nat.zero_le _) (Nat.zero_le _) (show 405 < 428 by decide) rfl (op.2.1 J' V' c1 r1) (fun v M' hv => ?_) (fun E M' z => z.2.elim))
  obtain ⟨T', V''⟩ := M'
  obtain ⟨hT, ⟨z, rfl, hz⟩, hth, c2, r2⟩ := hv
  dsimp only at hT hth c2 r2
  subst hT
  refine ⟨rOK_same, ?_⟩
  refine q_ist (L' := (6, .int z) :: (5, .int (nI _)) :: Ln i) dL_law_1960 (by decide) rfl ?_
  have fin : ∀ k9 : Nat, WLs p l e s m args below meth c G ad0 M0 A Z mL_law 1990 ((6, .int z) :: (5, .int (nI k9)) :: Ln i) [] (T0 J', V'') (bc - 1) (bs - 6) := fun k9 => q_goto (tgt := 2129) dL_law_1990 rfl (q_loc (fun r hr => List.mem_cons_of_mem _ (List.mem_cons_of_mem _ hr)) (K J' V'' _ _ _ c2 r2 (op.2.2 B hB) (by omega) (by omega)))
  exact law_tail dL_law_1962 dL_law_1963 dL_law_1966 dL_law_1968 dL_law_1973 dL_law_1975 rfl rfl rfl hk hth (fin _) (fun h0 => law_same dL_law_1978 dL_law_1979 dL_law_1980 dL_law_1981 dL_law_1983 dL_law_1984 dL_law_1985 rfl rfl ((hJ h0).trans (by rw [hz h0])) (fin _))
theorem cs_lot {i B m9 bc bs : Nat} {J : Nat → Nat → Int64} {V : Mem} {q : LSt} (F : SC N xs s G A) (hi : i + 6 ≤ N) (hN : N ≤ 3072) (I : clS V q) (R : rfS V q) (hB : bddL q.2.2.1 B) (hB9 : B ≤ 1000000000) (hbc : 10 * m9 + 10 ≤ bc) (hbs : 60 * m9 + 60 ≤ bs) (K : ∀ (J' : Nat → Nat → Int64) (V' : Mem) (q' : LSt) (bc' bs' : Nat), clS V' q' → rfS V' q' → bddL q'.2.2.1 (B + 400000) → 10 * m9 ≤ bc' → 60 * m9 ≤ bs' → WLs p l e s m args below meth c G ad0 M0 A Z mL_law 2129 (Ln i) [] (T0 J', V') bc' bs') : WLs p l e s m args below meth c G ad0 M0 A Z mL_law 1993 (Ln i) [] (T0 J, V) bc bs := by
  have op := op_lot q I.2.1.2 (xs (i + 1)) (xs (i + 2))
  refine q_aload_n (x := 0) dL_law_1993 rfl (q_arg (j := 1) F hi hN (by decide) dL_law_1994 dL_law_1995 dL_law_1997 dL_law_1998 dL_law_1999 rfl rfl (q_arg (j := 2) F hi hN (by decide) dL_law_2000 dL_law_2001 dL_law_2003 dL_law_2004 dL_law_2005 rfl rfl (q_aload_n (x := 427) dL_law_2006 rfl (q_callSW (As := [.ref 0, .int (xs (i + 1)), .int (xs (i + 2)), .ref 427]) (st := []) pL_lot rfl (TBg_of (w := Cond.methodLink (fC 9) 215 yL_lot) (i := 1243) (by decide +kernel) (by decide +kernel)) (TBg_of (w := Cond.static yL_lot) (i := 1244) (by decide +kernel) (by decide +kernel)) dL_law_2007 (by unfold rmP; decide) rfl (show 0 ≤ 8 by decide) (show 2 ≤ bc by omega) (show 12 ≤ bs by omega) (w_lot _ _ _ (op.1 J V I R)) (fun v M' hv => ?_) (fun E M' z => z.elim)))))
  obtain ⟨T', V'⟩ := M'
  obtain ⟨rfl, hk, J', hT, ⟨c1, r1⟩, hJ⟩ := hv
  dsimp only at hT c1 r1
  subst hT
  refine ⟨rOK_same, ?_⟩
  refine q_ist (L' := (5, .int (nI _)) :: Ln i) dL_law_2010 (by decide) rfl ?_
  refine q_aload_n (x := 405) dL_law_2012 rfl (q_arg (j := 1) F hi hN (by decide) dL_law_2013 dL_law_2014 dL_law_2016 dL_law_2017 dL_law_2018 rfl rfl (q_arg (j := 2) F hi hN (by decide) dL_law_2019 dL_law_2020 dL_law_2022 dL_law_2023 dL_law_2024 rfl rfl (q_callV (h := 405) (As := [.int (xs (i + 1)), .int (xs (i + 2))]) (st := []) iv_9_217 dL_law_2025 (by unfold rmP; decide) rfl (show 0 ≤ 8 by decide) (Nat.zero_le _) (Nat.zero_le _) (show 405 < 428 by decide) rfl (op.2.1 J' V' c1 r1) (fun v M' hv => ?_) (fun E M' z => z.2.elim))))
  obtain ⟨T', V''⟩ := M'
  obtain ⟨hT, ⟨z, rfl, hz⟩, hth, c2, r2⟩ := hv
  dsimp only at hT hth c2 r2
  subst hT
  refine ⟨rOK_same, ?_⟩
  refine q_ist (L' := (6, .int z) :: (5, .int (nI _)) :: Ln i) dL_law_2028 (by decide) rfl ?_
  have fin : ∀ k9 : Nat, WLs p l e s m args below meth c G ad0 M0 A Z mL_law 2058 ((6, .int z) :: (5, .int (nI k9)) :: Ln i) [] (T0 J', V'') (bc - 2) (bs - 12) := fun k9 => q_goto (tgt := 2129) dL_law_2058 rfl (q_loc (fun r hr => List.mem_cons_of_mem _ (List.mem_cons_of_mem _ hr)) (K J' V'' _ _ _ c2 r2 (op.2.2 B hB) (by omega) (by omega)))
  exact law_tail dL_law_2030 dL_law_2031 dL_law_2034 dL_law_2036 dL_law_2041 dL_law_2043 rfl rfl rfl hk hth (fin _) (fun h0 => law_same dL_law_2046 dL_law_2047 dL_law_2048 dL_law_2049 dL_law_2051 dL_law_2052 dL_law_2053 rfl rfl ((hJ h0).trans (by rw [hz h0])) (fin _))
theorem cs_squad {i B m9 bc bs : Nat} {J : Nat → Nat → Int64} {V : Mem} {q : LSt} (F : SC N xs s G A) (hi : i + 6 ≤ N) (hN : N ≤ 3072) (I : clS V q) (R : rfS V q) (hB : bddL q.2.2.1 B) (hB9 : B ≤ 1000000000) (hbc : 10 * m9 + 10 ≤ bc) (hbs : 60 * m9 + 60 ≤ bs) (K : ∀ (J' : Nat → Nat → Int64) (V' : Mem) (q' : LSt) (bc' bs' : Nat), clS V' q' → rfS V' q' → bddL q'.2.2.1 (B + 400000) → 10 * m9 ≤ bc' → 60 * m9 ≤ bs' → WLs p l e s m args below meth c G ad0 M0 A Z mL_law 2129 (Ln i) [] (T0 J', V') bc' bs') : WLs p l e s m args below meth c G ad0 M0 A Z mL_law 2061 (Ln i) [] (T0 J, V) bc bs := by
  have op := op_squad q I.2.1.2 (xs (i + 1)) (xs (i + 2))
  refine q_aload_n (x := 0) dL_law_2061 rfl (q_arg (j := 1) F hi hN (by decide) dL_law_2062 dL_law_2063 dL_law_2065 dL_law_2066 dL_law_2067 rfl rfl (q_arg (j := 2) F hi hN (by decide) dL_law_2068 dL_law_2069 dL_law_2071 dL_law_2072 dL_law_2073 rfl rfl (q_aload_n (x := 427) dL_law_2074 rfl (q_callSW (As := [.ref 0, .int (xs (i + 1)), .int (xs (i + 2)), .ref 427]) (st := []) pL_squad rfl (TBg_of (w := Cond.methodLink (fC 9) 218 yL_squad) (i := 1255) (by decide +kernel) (by decide +kernel)) (TBg_of (w := Cond.static yL_squad) (i := 1256) (by decide +kernel) (by decide +kernel)) dL_law_2075 (by unfold rmP; decide) rfl (show 0 ≤ 8 by decide) (show 2 ≤ bc by omega) (show 12 ≤ bs by omega) (w_squad _ _ _ (op.1 J V I R)) (fun v M' hv => ?_) (fun E M' z => z.elim)))))
  obtain ⟨T', V'⟩ := M'
  obtain ⟨rfl, hk, J', hT, ⟨c1, r1⟩, hJ⟩ := hv
  dsimp only at hT c1 r1
  subst hT
  refine ⟨rOK_same, ?_⟩
  refine q_ist (L' := (5, .int (nI _)) :: Ln i) dL_law_2078 (by decide) rfl ?_
  refine q_aload_n (x := 405) dL_law_2080 rfl (q_arg (j := 1) F hi hN (by decide) dL_law_2081 dL_law_2082 dL_law_2084 dL_law_2085 dL_law_2086 rfl rfl (q_arg (j := 2) F hi hN (by decide) dL_law_2087 dL_law_2088 dL_law_2090 dL_law_2091 dL_law_2092 rfl rfl (q_callV (h := 405) (As := [.int (xs (i + 1)), .int (xs (i + 2))]) (st := []) iv_9_220 dL_law_2093 (by unfold rmP; decide) rfl (show 0 ≤ 8 by decide) (Nat.zero_le _) (Nat.zero_le _) (show 405 < 428 by decide) rfl (op.2.1 J' V' c1 r1) (fun v M' hv => ?_) (fun E M' z => z.2.elim))))
  obtain ⟨T', V''⟩ := M'
  obtain ⟨hT, ⟨z, rfl, hz⟩, hth, c2, r2⟩ := hv
  dsimp only at hT hth c2 r2
  subst hT
  refine ⟨rOK_same, ?_⟩
  refine q_ist (L' := (6, .int z) :: (5, .int (nI _)) :: Ln i) dL_law_2096 (by decide) rfl ?_
  have fin : ∀ k9 : Nat, WLs p l e s m args below meth c G ad0 M0 A Z mL_law 2126 ((6, .int z) :: (5, .int (nI k9)) :: Ln i) [] (T0 J', V'') (bc - 2) (bs - 12) := fun k9 => q_goto (tgt := 2129) dL_law_2126 rfl (q_loc (fun r hr => List.mem_cons_of_mem _ (List.mem_cons_of_mem _ hr)) (K J' V'' _ _ _ c2 r2 (op.2.2 B hB) (by omega) (by omega)))
  exact law_tail dL_law_2098 dL_law_2099 dL_law_2102 dL_law_2104 dL_law_2109 dL_law_2111 rfl rfl rfl hk hth (fin _) (fun h0 => law_same dL_law_2114 dL_law_2115 dL_law_2116 dL_law_2117 dL_law_2119 dL_law_2120 dL_law_2121 rfl rfl ((hJ h0).trans (by rw [hz h0])) (fin _))
end LD
