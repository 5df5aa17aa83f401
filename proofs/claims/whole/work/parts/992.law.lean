def f_law_0 (xs : Nat → Int32) (i : Int32) (M : TM) (K : TM → Prop) : Prop := f_X12_appendText (xs (i + (1 : Int32)).toNatClampNeg) (xs (i + (2 : Int32)).toNatClampNeg) (xs (i + (3 : Int32)).toNatClampNeg) (xs (i + (4 : Int32)).toNatClampNeg) (xs (i + (5 : Int32)).toNatClampNeg) M (fun r2 M1 => f_X13_appendText (xs (i + (1 : Int32)).toNatClampNeg) (xs (i + (2 : Int32)).toNatClampNeg) (xs (i + (3 : Int32)).toNatClampNeg) (xs (i + (4 : Int32)).toNatClampNeg) (xs (i + (5 : Int32)).toNatClampNeg) M1 (fun r4 M3 => ((r2 = r4 → K M3) ∧ (¬ r2 = r4 → False))))
set_option maxRecDepth 100000 in
set_option maxHeartbeats 4000000 in
theorem l_law_0 {p : Program} {l : Launch} {e : Env} {R : Room} {s : State} {m : MethodId} {args : Array Value} {below : List Frame} {meth : Method} {c : Code} {cells slots : Nat} {Q : State → Prop} {D : va_G} {tc : Nat → ClassId} {ad : Nat → Nat} {b Lx : Nat} {xs : Nat → Int32} {i : Int32} {K : TM → Prop} (E : Ev p s m args meth c D tc ad RL cL_law 9) (hfl : l.stackTraces = false) (hX : va_X b Lx xs s s.heap) (hbl : b < s.heap.size) (hbA : ¬ A0 ad s.heap.size b) (hw0 : vp_in i Lx) (hw1 : vp_in (i + (1 : Int32)) Lx) (hw2 : vp_in (i + (2 : Int32)) Lx) (hw3 : vp_in (i + (3 : Int32)) Lx) (hw4 : vp_in (i + (4 : Int32)) Lx) (hw5 : vp_in (i + (5 : Int32)) Lx) (hRm : 40 ≤ R.frames ∧ 1640 ≤ R.locals) (hcl : cells + 16 ≤ R.cells ∧ slots + 96 ≤ R.slots) (hK : ∀ M', K M' → Wa p l e R s m args below meth c (cells + 16) (slots + 96) Q D tc ad 9 M' 3273 [(4, .int i), (3, .ref (ad 710)), (2, .ref (ad 699)), (1, .ref (ad 0)), (0, .ref b)] []) (M : TM) (h : f_law_0 xs i M K) : Wa p l e R s m args below meth c cells slots Q D tc ad 9 M 304 [(4, .int i), (3, .ref (ad 710)), (2, .ref (ad 699)), (1, .ref (ad 0)), (0, .ref b)] [] := by
  unfold f_law_0 at h
  refine ra_aload_n E dL_law_304 rfl 3 rfl ?_
  refine ra_aload_n E dL_law_305 rfl 4 rfl ?_
  refine ra_iload E dL_law_306 0 rfl ?_
  refine ra_iconst E dL_law_308 ki_1 ?_
  refine ra_iadd E dL_law_309 ?_
  refine ra_sld E hX hbl hbA hw1 dL_law_310 ?_
  refine ra_aload_n E dL_law_311 rfl 4 rfl ?_
  refine ra_iload E dL_law_312 0 rfl ?_
  refine ra_iconst E dL_law_314 ki_2 ?_
  refine ra_iadd E dL_law_315 ?_
  refine ra_sld E hX hbl hbA hw2 dL_law_316 ?_
  refine ra_aload_n E dL_law_317 rfl 4 rfl ?_
  refine ra_iload E dL_law_318 0 rfl ?_
  refine ra_iconst E dL_law_320 ki_3 ?_
  refine ra_iadd E dL_law_321 ?_
  refine ra_sld E hX hbl hbA hw3 dL_law_322 ?_
  refine ra_aload_n E dL_law_323 rfl 4 rfl ?_
  refine ra_iload E dL_law_324 0 rfl ?_
  refine ra_iconst E dL_law_326 ki_4 ?_
  refine ra_iadd E dL_law_327 ?_
  refine ra_sld E hX hbl hbA hw4 dL_law_328 ?_
  refine ra_aload_n E dL_law_329 rfl 4 rfl ?_
  refine ra_iload E dL_law_330 0 rfl ?_
  refine ra_iconst E dL_law_332 ki_5 ?_
  refine ra_iadd E dL_law_333 ?_
  refine ra_sld E hX hbl hbA hw5 dL_law_334 ?_
  refine ra_callIV (rest := []) E (c_X12_appendText _ _ _ _ _ _ _ h) (lq_X12 _) cv_X12_appendText ml_L_159 (by decide) (lm (by decide)) (fun R => ⟨_, cel_0 tc ad R⟩) rfl rfl rfl (Nat.le_of_ble_eq_true rfl) ⟨by omega, by omega⟩ ⟨by omega, by omega⟩ dL_law_335 (fun r2 M1 h => ?_)
  refine ra_aload_n E dL_law_338 rfl 2 rfl ?_
  refine ra_aload_n E dL_law_339 rfl 4 rfl ?_
  refine ra_iload E dL_law_340 0 rfl ?_
  refine ra_iconst E dL_law_342 ki_1 ?_
  refine ra_iadd E dL_law_343 ?_
  refine ra_sld E hX hbl hbA hw1 dL_law_344 ?_
  refine ra_aload_n E dL_law_345 rfl 4 rfl ?_
  refine ra_iload E dL_law_346 0 rfl ?_
  refine ra_iconst E dL_law_348 ki_2 ?_
  refine ra_iadd E dL_law_349 ?_
  refine ra_sld E hX hbl hbA hw2 dL_law_350 ?_
  refine ra_aload_n E dL_law_351 rfl 4 rfl ?_
  refine ra_iload E dL_law_352 0 rfl ?_
  refine ra_iconst E dL_law_354 ki_3 ?_
  refine ra_iadd E dL_law_355 ?_
  refine ra_sld E hX hbl hbA hw3 dL_law_356 ?_
  refine ra_aload_n E dL_law_357 rfl 4 rfl ?_
  refine ra_iload E dL_law_358 0 rfl ?_
  refine ra_iconst E dL_law_360 ki_4 ?_
  refine ra_iadd E dL_law_361 ?_
  refine ra_sld E hX hbl hbA hw4 dL_law_362 ?_
  refine ra_aload_n E dL_law_363 rfl 4 rfl ?_
  refine ra_iload E dL_law_364 0 rfl ?_
  refine ra_iconst E dL_law_366 ki_5 ?_
  refine ra_iadd E dL_law_367 ?_
  refine ra_sld E hX hbl hbA hw5 dL_law_368 ?_
  refine ra_callIV (rest := [_]) E (c_X13_appendText _ _ _ _ _ _ _ h) lq_13L cv_X13_appendText ml_L_163 (by decide) (lmL (k := 699) (by decide)) (fun R => ⟨_, cel_699 tc ad R⟩) rfl rfl rfl (Nat.le_of_ble_eq_true rfl) ⟨by omega, by omega⟩ ⟨by omega, by omega⟩ dL_law_369 (fun r4 M3 h => ?_)
  refine ra_icmp_eq (tgt := 3273) E dL_law_372 (by decide) (fun q5 => ?_) (fun q5 => ?_)
  · replace h := h.1 q5
    exact ra_sub (L' := [(4, _), (3, _), (2, _), (1, _), (0, _)]) [0, 1, 2, 3, 4] rfl (ra_widen (k := cells + 16) (n := slots + 96) (by omega) (by omega) (hK _ h))
  · replace h := h.2 q5
    refine ra_iconst E dL_law_375 ki_0 ?_
    exact h.elim
def f_law_1 (xs : Nat → Int32) (i : Int32) (M : TM) (K : TM → Prop) : Prop := f_L_loadCanal (xs (i + (1 : Int32)).toNatClampNeg) M (fun r2 M1 => f_X13_loadCanal (xs (i + (1 : Int32)).toNatClampNeg) M1 (fun r4 M3 => f_X13_thrown M3 (fun r6 M5 => ((r6 = r2 → ((¬ r2 = 0 → K M5) ∧ (r2 = 0 → (((lg_cmp (M5 710 0).toInt64 r4.toInt64) = 0 → K M5) ∧ (¬ (lg_cmp (M5 710 0).toInt64 r4.toInt64) = 0 → False))))) ∧ (¬ r6 = r2 → False)))))
set_option maxRecDepth 100000 in
set_option maxHeartbeats 4000000 in
theorem l_law_1 {p : Program} {l : Launch} {e : Env} {R : Room} {s : State} {m : MethodId} {args : Array Value} {below : List Frame} {meth : Method} {c : Code} {cells slots : Nat} {Q : State → Prop} {D : va_G} {tc : Nat → ClassId} {ad : Nat → Nat} {b Lx : Nat} {xs : Nat → Int32} {i : Int32} {K : TM → Prop} (E : Ev p s m args meth c D tc ad RL cL_law 9) (hfl : l.stackTraces = false) (hX : va_X b Lx xs s s.heap) (hbl : b < s.heap.size) (hbA : ¬ A0 ad s.heap.size b) (hw0 : vp_in i Lx) (hw1 : vp_in (i + (1 : Int32)) Lx) (hw2 : vp_in (i + (2 : Int32)) Lx) (hw3 : vp_in (i + (3 : Int32)) Lx) (hw4 : vp_in (i + (4 : Int32)) Lx) (hw5 : vp_in (i + (5 : Int32)) Lx) (hRm : 40 ≤ R.frames ∧ 1640 ≤ R.locals) (hcl : cells + 16 ≤ R.cells ∧ slots + 96 ≤ R.slots) (hK : ∀ M', K M' → Wa p l e R s m args below meth c (cells + 16) (slots + 96) Q D tc ad 9 M' 3273 [(4, .int i), (3, .ref (ad 710)), (2, .ref (ad 699)), (1, .ref (ad 0)), (0, .ref b)] []) (M : TM) (h : f_law_1 xs i M K) : Wa p l e R s m args below meth c cells slots Q D tc ad 9 M 377 [(4, .int i), (3, .ref (ad 710)), (2, .ref (ad 699)), (1, .ref (ad 0)), (0, .ref b)] [] := by
  unfold f_law_1 at h
  refine ra_aload_n E dL_law_377 rfl 3 rfl ?_
  refine ra_aload_n E dL_law_378 rfl 4 rfl ?_
  refine ra_iload E dL_law_379 0 rfl ?_
  refine ra_iconst E dL_law_381 ki_1 ?_
  refine ra_iadd E dL_law_382 ?_
  refine ra_sld E hX hbl hbA hw1 dL_law_383 ?_
  refine ra_aload_n E dL_law_384 rfl 1 rfl ?_
  refine rx_callW (rest := []) E hfl (c_L_loadCanal _ _ _ h) lq_L ctw_L_loadCanal ml_L_164 (by decide) rfl rfl (Nat.le_of_ble_eq_true rfl) ⟨by omega, by omega⟩ ⟨by omega, by omega⟩ dL_law_385 (fun r2 M1 h => ?_)
  refine ra_istore (L' := [(5, _), (4, _), (3, _), (2, _), (1, _), (0, _)]) E dL_law_388 (by decide) rfl ?_
  refine ra_aload_n E dL_law_390 rfl 3 rfl ?_
  refine ra_aload_n E dL_law_391 rfl 5 rfl ?_
  refine ra_iload E dL_law_392 1 rfl ?_
  refine ra_iconst E dL_law_394 ki_1 ?_
  refine ra_iadd E dL_law_395 ?_
  refine ra_sld E hX hbl hbA hw1 dL_law_396 ?_
  refine ra_callIV (rest := []) E (c_X13_loadCanal _ _ _ h) lq_13L cv_X13_loadCanal ml_L_169 (by decide) (lmL (k := 699) (by decide)) (fun R => ⟨_, cel_699 tc ad R⟩) rfl rfl rfl (Nat.le_of_ble_eq_true rfl) ⟨by omega, by omega⟩ ⟨by omega, by omega⟩ dL_law_397 (fun r4 M3 h => ?_)
  refine ra_istore (L' := [(6, _), (5, _), (4, _), (3, _), (2, _), (1, _), (0, _)]) E dL_law_400 (by decide) rfl ?_
  refine ra_aload_n E dL_law_402 rfl 4 rfl ?_
  refine ra_callIV (rest := []) E (c_X13_thrown _ _ h) lq_13L cv_X13_thrown ml_L_170 (by decide) (lmL (k := 699) (by decide)) (fun R => ⟨_, cel_699 tc ad R⟩) rfl rfl rfl (Nat.le_of_ble_eq_true rfl) ⟨by omega, by omega⟩ ⟨by omega, by omega⟩ dL_law_403 (fun r6 M5 h => ?_)
  refine ra_iload E dL_law_406 1 rfl ?_
  refine ra_icmp_eq (tgt := 413) E dL_law_408 (by decide) (fun q7 => ?_) (fun q7 => ?_)
  · replace h := h.1 q7
    refine ra_iload E dL_law_413 1 rfl ?_
    refine ra_if_ne (tgt := 430) E dL_law_415 (by decide) (fun q8 => ?_) (fun q8 => ?_)
    · replace h := h.1 q8
      refine ra_goto (tgt := 3273) E dL_law_430 (by decide) ?_
      exact ra_sub (L' := [(4, _), (3, _), (2, _), (1, _), (0, _)]) [2, 3, 4, 5, 6] rfl (ra_widen (k := cells + 16) (n := slots + 96) (by omega) (by omega) (hK _ h))
    · replace h := h.2 q8
      refine ra_aload_n E dL_law_418 rfl 3 rfl ?_
      refine ra_iconst E dL_law_419 ki_0 ?_
      refine ra_lald E (lmL (by decide)) rfl dL_law_420 ?_
      refine ra_iload E dL_law_421 0 rfl ?_
      refine ra_i2l E dL_law_423 rfl ?_
      refine ra_lcmp E dL_law_424 ?_
      refine ra_if_eq (tgt := 430) E dL_law_425 (by decide) (fun q9 => ?_) (fun q9 => ?_)
      · replace h := h.1 q9
        refine ra_goto (tgt := 3273) E dL_law_430 (by decide) ?_
        exact ra_sub (L' := [(4, _), (3, _), (2, _), (1, _), (0, _)]) [2, 3, 4, 5, 6] rfl (ra_widen (k := cells + 16) (n := slots + 96) (by omega) (by omega) (hK _ h))
      · replace h := h.2 q9
        refine ra_iconst E dL_law_428 ki_0 ?_
        exact h.elim
  · replace h := h.2 q7
    refine ra_iconst E dL_law_411 ki_0 ?_
    exact h.elim
def f_law_2 (xs : Nat → Int32) (i : Int32) (M : TM) (K : TM → Prop) : Prop := f_X12_errorCode M (fun r2 M1 => f_X13_errorCode M1 (fun r4 M3 => ((r2 = r4 → K M3) ∧ (¬ r2 = r4 → False))))
set_option maxRecDepth 100000 in
set_option maxHeartbeats 4000000 in
theorem l_law_2 {p : Program} {l : Launch} {e : Env} {R : Room} {s : State} {m : MethodId} {args : Array Value} {below : List Frame} {meth : Method} {c : Code} {cells slots : Nat} {Q : State → Prop} {D : va_G} {tc : Nat → ClassId} {ad : Nat → Nat} {b Lx : Nat} {xs : Nat → Int32} {i : Int32} {K : TM → Prop} (E : Ev p s m args meth c D tc ad RL cL_law 9) (hfl : l.stackTraces = false) (hX : va_X b Lx xs s s.heap) (hbl : b < s.heap.size) (hbA : ¬ A0 ad s.heap.size b) (hw0 : vp_in i Lx) (hw1 : vp_in (i + (1 : Int32)) Lx) (hw2 : vp_in (i + (2 : Int32)) Lx) (hw3 : vp_in (i + (3 : Int32)) Lx) (hw4 : vp_in (i + (4 : Int32)) Lx) (hw5 : vp_in (i + (5 : Int32)) Lx) (hRm : 40 ≤ R.frames ∧ 1640 ≤ R.locals) (hcl : cells + 16 ≤ R.cells ∧ slots + 96 ≤ R.slots) (hK : ∀ M', K M' → Wa p l e R s m args below meth c (cells + 16) (slots + 96) Q D tc ad 9 M' 3273 [(4, .int i), (3, .ref (ad 710)), (2, .ref (ad 699)), (1, .ref (ad 0)), (0, .ref b)] []) (M : TM) (h : f_law_2 xs i M K) : Wa p l e R s m args below meth c cells slots Q D tc ad 9 M 433 [(4, .int i), (3, .ref (ad 710)), (2, .ref (ad 699)), (1, .ref (ad 0)), (0, .ref b)] [] := by
  unfold f_law_2 at h
  refine ra_aload_n E dL_law_433 rfl 3 rfl ?_
  refine ra_callIV (rest := []) E (c_X12_errorCode _ _ h) (lq_X12 _) cv_X12_errorCode ml_L_173 (by decide) (lm (by decide)) (fun R => ⟨_, cel_0 tc ad R⟩) rfl rfl rfl (Nat.le_of_ble_eq_true rfl) ⟨by omega, by omega⟩ ⟨by omega, by omega⟩ dL_law_434 (fun r2 M1 h => ?_)
  refine ra_aload_n E dL_law_437 rfl 2 rfl ?_
  refine ra_callIV (rest := [_]) E (c_X13_errorCode _ _ h) lq_13L cv_X13_errorCode ml_L_176 (by decide) (lmL (k := 699) (by decide)) (fun R => ⟨_, cel_699 tc ad R⟩) rfl rfl rfl (Nat.le_of_ble_eq_true rfl) ⟨by omega, by omega⟩ ⟨by omega, by omega⟩ dL_law_438 (fun r4 M3 h => ?_)
  refine ra_icmp_eq (tgt := 3273) E dL_law_441 (by decide) (fun q5 => ?_) (fun q5 => ?_)
  · replace h := h.1 q5
    exact ra_sub (L' := [(4, _), (3, _), (2, _), (1, _), (0, _)]) [0, 1, 2, 3, 4] rfl (ra_widen (k := cells + 16) (n := slots + 96) (by omega) (by omega) (hK _ h))
  · replace h := h.2 q5
    refine ra_iconst E dL_law_444 ki_0 ?_
    exact h.elim
def f_law_3 (xs : Nat → Int32) (i : Int32) (M : TM) (K : TM → Prop) : Prop := f_X12_errorOffset M (fun r2 M1 => f_X13_errorOffset M1 (fun r4 M3 => ((r2 = r4 → K M3) ∧ (¬ r2 = r4 → False))))
set_option maxRecDepth 100000 in
set_option maxHeartbeats 4000000 in
theorem l_law_3 {p : Program} {l : Launch} {e : Env} {R : Room} {s : State} {m : MethodId} {args : Array Value} {below : List Frame} {meth : Method} {c : Code} {cells slots : Nat} {Q : State → Prop} {D : va_G} {tc : Nat → ClassId} {ad : Nat → Nat} {b Lx : Nat} {xs : Nat → Int32} {i : Int32} {K : TM → Prop} (E : Ev p s m args meth c D tc ad RL cL_law 9) (hfl : l.stackTraces = false) (hX : va_X b Lx xs s s.heap) (hbl : b < s.heap.size) (hbA : ¬ A0 ad s.heap.size b) (hw0 : vp_in i Lx) (hw1 : vp_in (i + (1 : Int32)) Lx) (hw2 : vp_in (i + (2 : Int32)) Lx) (hw3 : vp_in (i + (3 : Int32)) Lx) (hw4 : vp_in (i + (4 : Int32)) Lx) (hw5 : vp_in (i + (5 : Int32)) Lx) (hRm : 40 ≤ R.frames ∧ 1640 ≤ R.locals) (hcl : cells + 16 ≤ R.cells ∧ slots + 96 ≤ R.slots) (hK : ∀ M', K M' → Wa p l e R s m args below meth c (cells + 16) (slots + 96) Q D tc ad 9 M' 3273 [(4, .int i), (3, .ref (ad 710)), (2, .ref (ad 699)), (1, .ref (ad 0)), (0, .ref b)] []) (M : TM) (h : f_law_3 xs i M K) : Wa p l e R s m args below meth c cells slots Q D tc ad 9 M 446 [(4, .int i), (3, .ref (ad 710)), (2, .ref (ad 699)), (1, .ref (ad 0)), (0, .ref b)] [] := by
  unfold f_law_3 at h
  refine ra_aload_n E dL_law_446 rfl 3 rfl ?_
  refine ra_callIV (rest := []) E (c_X12_errorOffset _ _ h) (lq_X12 _) cv_X12_errorOffset ml_L_177 (by decide) (lm (by decide)) (fun R => ⟨_, cel_0 tc ad R⟩) rfl rfl rfl (Nat.le_of_ble_eq_true rfl) ⟨by omega, by omega⟩ ⟨by omega, by omega⟩ dL_law_447 (fun r2 M1 h => ?_)
  refine ra_aload_n E dL_law_450 rfl 2 rfl ?_
  refine ra_callIV (rest := [_]) E (c_X13_errorOffset _ _ h) lq_13L cv_X13_errorOffset ml_L_180 (by decide) (lmL (k := 699) (by decide)) (fun R => ⟨_, cel_699 tc ad R⟩) rfl rfl rfl (Nat.le_of_ble_eq_true rfl) ⟨by omega, by omega⟩ ⟨by omega, by omega⟩ dL_law_451 (fun r4 M3 h => ?_)
  refine ra_icmp_eq (tgt := 3273) E dL_law_454 (by decide) (fun q5 => ?_) (fun q5 => ?_)
  · replace h := h.1 q5
    exact ra_sub (L' := [(4, _), (3, _), (2, _), (1, _), (0, _)]) [0, 1, 2, 3, 4] rfl (ra_widen (k := cells + 16) (n := slots + 96) (by omega) (by omega) (hK _ h))
  · replace h := h.2 q5
    refine ra_iconst E dL_law_457 ki_0 ?_
    exact h.elim
def f_law_4 (xs : Nat → Int32) (i : Int32) (M : TM) (K : TM → Prop) : Prop := f_X12_minute M (fun r2 M1 => f_X13_minute M1 (fun r4 M3 => ((r2 = r4 → K M3) ∧ (¬ r2 = r4 → False))))
set_option maxRecDepth 100000 in
set_option maxHeartbeats 4000000 in
theorem l_law_4 {p : Program} {l : Launch} {e : Env} {R : Room} {s : State} {m : MethodId} {args : Array Value} {below : List Frame} {meth : Method} {c : Code} {cells slots : Nat} {Q : State → Prop} {D : va_G} {tc : Nat → ClassId} {ad : Nat → Nat} {b Lx : Nat} {xs : Nat → Int32} {i : Int32} {K : TM → Prop} (E : Ev p s m args meth c D tc ad RL cL_law 9) (hfl : l.stackTraces = false) (hX : va_X b Lx xs s s.heap) (hbl : b < s.heap.size) (hbA : ¬ A0 ad s.heap.size b) (hw0 : vp_in i Lx) (hw1 : vp_in (i + (1 : Int32)) Lx) (hw2 : vp_in (i + (2 : Int32)) Lx) (hw3 : vp_in (i + (3 : Int32)) Lx) (hw4 : vp_in (i + (4 : Int32)) Lx) (hw5 : vp_in (i + (5 : Int32)) Lx) (hRm : 40 ≤ R.frames ∧ 1640 ≤ R.locals) (hcl : cells + 16 ≤ R.cells ∧ slots + 96 ≤ R.slots) (hK : ∀ M', K M' → Wa p l e R s m args below meth c (cells + 16) (slots + 96) Q D tc ad 9 M' 3273 [(4, .int i), (3, .ref (ad 710)), (2, .ref (ad 699)), (1, .ref (ad 0)), (0, .ref b)] []) (M : TM) (h : f_law_4 xs i M K) : Wa p l e R s m args below meth c cells slots Q D tc ad 9 M 459 [(4, .int i), (3, .ref (ad 710)), (2, .ref (ad 699)), (1, .ref (ad 0)), (0, .ref b)] [] := by
  unfold f_law_4 at h
  refine ra_aload_n E dL_law_459 rfl 3 rfl ?_
  refine ra_callIV (rest := []) E (c_X12_minute _ _ h) (lq_X12 _) cv_X12_minute ml_L_181 (by decide) (lm (by decide)) (fun R => ⟨_, cel_0 tc ad R⟩) rfl rfl rfl (Nat.le_of_ble_eq_true rfl) ⟨by omega, by omega⟩ ⟨by omega, by omega⟩ dL_law_460 (fun r2 M1 h => ?_)
  refine ra_aload_n E dL_law_463 rfl 2 rfl ?_
  refine ra_callIV (rest := [_]) E (c_X13_minute _ _ h) lq_13L cv_X13_minute ml_L_184 (by decide) (lmL (k := 699) (by decide)) (fun R => ⟨_, cel_699 tc ad R⟩) rfl rfl rfl (Nat.le_of_ble_eq_true rfl) ⟨by omega, by omega⟩ ⟨by omega, by omega⟩ dL_law_464 (fun r4 M3 h => ?_)
  refine ra_icmp_eq (tgt := 3273) E dL_law_467 (by decide) (fun q5 => ?_) (fun q5 => ?_)
  · replace h := h.1 q5
    exact ra_sub (L' := [(4, _), (3, _), (2, _), (1, _), (0, _)]) [0, 1, 2, 3, 4] rfl (ra_widen (k := cells + 16) (n := slots + 96) (by omega) (by omega) (hK _ h))
  · replace h := h.2 q5
    refine ra_iconst E dL_law_470 ki_0 ?_
    exact h.elim
def f_law_5 (xs : Nat → Int32) (i : Int32) (M : TM) (K : TM → Prop) : Prop := f_X12_placeCount M (fun r2 M1 => f_X13_placeCount M1 (fun r4 M3 => ((r2 = r4 → K M3) ∧ (¬ r2 = r4 → False))))
set_option maxRecDepth 100000 in
set_option maxHeartbeats 4000000 in
theorem l_law_5 {p : Program} {l : Launch} {e : Env} {R : Room} {s : State} {m : MethodId} {args : Array Value} {below : List Frame} {meth : Method} {c : Code} {cells slots : Nat} {Q : State → Prop} {D : va_G} {tc : Nat → ClassId} {ad : Nat → Nat} {b Lx : Nat} {xs : Nat → Int32} {i : Int32} {K : TM → Prop} (E : Ev p s m args meth c D tc ad RL cL_law 9) (hfl : l.stackTraces = false) (hX : va_X b Lx xs s s.heap) (hbl : b < s.heap.size) (hbA : ¬ A0 ad s.heap.size b) (hw0 : vp_in i Lx) (hw1 : vp_in (i + (1 : Int32)) Lx) (hw2 : vp_in (i + (2 : Int32)) Lx) (hw3 : vp_in (i + (3 : Int32)) Lx) (hw4 : vp_in (i + (4 : Int32)) Lx) (hw5 : vp_in (i + (5 : Int32)) Lx) (hRm : 40 ≤ R.frames ∧ 1640 ≤ R.locals) (hcl : cells + 16 ≤ R.cells ∧ slots + 96 ≤ R.slots) (hK : ∀ M', K M' → Wa p l e R s m args below meth c (cells + 16) (slots + 96) Q D tc ad 9 M' 3273 [(4, .int i), (3, .ref (ad 710)), (2, .ref (ad 699)), (1, .ref (ad 0)), (0, .ref b)] []) (M : TM) (h : f_law_5 xs i M K) : Wa p l e R s m args below meth c cells slots Q D tc ad 9 M 472 [(4, .int i), (3, .ref (ad 710)), (2, .ref (ad 699)), (1, .ref (ad 0)), (0, .ref b)] [] := by
  unfold f_law_5 at h
  refine ra_aload_n E dL_law_472 rfl 3 rfl ?_
  refine ra_callIV (rest := []) E (c_X12_placeCount _ _ h) (lq_X12 _) cv_X12_placeCount ml_L_185 (by decide) (lm (by decide)) (fun R => ⟨_, cel_0 tc ad R⟩) rfl rfl rfl (Nat.le_of_ble_eq_true rfl) ⟨by omega, by omega⟩ ⟨by omega, by omega⟩ dL_law_473 (fun r2 M1 h => ?_)
  refine ra_aload_n E dL_law_476 rfl 2 rfl ?_
  refine ra_callIV (rest := [_]) E (c_X13_placeCount _ _ h) lq_13L cv_X13_placeCount ml_L_188 (by decide) (lmL (k := 699) (by decide)) (fun R => ⟨_, cel_699 tc ad R⟩) rfl rfl rfl (Nat.le_of_ble_eq_true rfl) ⟨by omega, by omega⟩ ⟨by omega, by omega⟩ dL_law_477 (fun r4 M3 h => ?_)
  refine ra_icmp_eq (tgt := 3273) E dL_law_480 (by decide) (fun q5 => ?_) (fun q5 => ?_)
  · replace h := h.1 q5
    exact ra_sub (L' := [(4, _), (3, _), (2, _), (1, _), (0, _)]) [0, 1, 2, 3, 4] rfl (ra_widen (k := cells + 16) (n := slots + 96) (by omega) (by omega) (hK _ h))
  · replace h := h.2 q5
    refine ra_iconst E dL_law_483 ki_0 ?_
    exact h.elim
def f_law_6 (xs : Nat → Int32) (i : Int32) (M : TM) (K : TM → Prop) : Prop := f_L_lockWait (xs (i + (1 : Int32)).toNatClampNeg) M (fun r2 M1 => f_X13_lockWait (xs (i + (1 : Int32)).toNatClampNeg) M1 (fun r4 M3 => f_X13_thrown M3 (fun r6 M5 => ((r6 = r2 → ((¬ r2 = 0 → K M5) ∧ (r2 = 0 → (((lg_cmp (M5 710 0).toInt64 r4.toInt64) = 0 → K M5) ∧ (¬ (lg_cmp (M5 710 0).toInt64 r4.toInt64) = 0 → False))))) ∧ (¬ r6 = r2 → False)))))
set_option maxRecDepth 100000 in
set_option maxHeartbeats 4000000 in
theorem l_law_6 {p : Program} {l : Launch} {e : Env} {R : Room} {s : State} {m : MethodId} {args : Array Value} {below : List Frame} {meth : Method} {c : Code} {cells slots : Nat} {Q : State → Prop} {D : va_G} {tc : Nat → ClassId} {ad : Nat → Nat} {b Lx : Nat} {xs : Nat → Int32} {i : Int32} {K : TM → Prop} (E : Ev p s m args meth c D tc ad RL cL_law 9) (hfl : l.stackTraces = false) (hX : va_X b Lx xs s s.heap) (hbl : b < s.heap.size) (hbA : ¬ A0 ad s.heap.size b) (hw0 : vp_in i Lx) (hw1 : vp_in (i + (1 : Int32)) Lx) (hw2 : vp_in (i + (2 : Int32)) Lx) (hw3 : vp_in (i + (3 : Int32)) Lx) (hw4 : vp_in (i + (4 : Int32)) Lx) (hw5 : vp_in (i + (5 : Int32)) Lx) (hRm : 40 ≤ R.frames ∧ 1640 ≤ R.locals) (hcl : cells + 16 ≤ R.cells ∧ slots + 96 ≤ R.slots) (hK : ∀ M', K M' → Wa p l e R s m args below meth c (cells + 16) (slots + 96) Q D tc ad 9 M' 3273 [(4, .int i), (3, .ref (ad 710)), (2, .ref (ad 699)), (1, .ref (ad 0)), (0, .ref b)] []) (M : TM) (h : f_law_6 xs i M K) : Wa p l e R s m args below meth c cells slots Q D tc ad 9 M 485 [(4, .int i), (3, .ref (ad 710)), (2, .ref (ad 699)), (1, .ref (ad 0)), (0, .ref b)] [] := by
  unfold f_law_6 at h
  refine ra_aload_n E dL_law_485 rfl 3 rfl ?_
  refine ra_aload_n E dL_law_486 rfl 4 rfl ?_
  refine ra_iload E dL_law_487 0 rfl ?_
  refine ra_iconst E dL_law_489 ki_1 ?_
  refine ra_iadd E dL_law_490 ?_
  refine ra_sld E hX hbl hbA hw1 dL_law_491 ?_
  refine ra_aload_n E dL_law_492 rfl 1 rfl ?_
  refine rx_callW (rest := []) E hfl (c_L_lockWait _ _ _ h) lq_L ctw_L_lockWait ml_L_189 (by decide) rfl rfl (Nat.le_of_ble_eq_true rfl) ⟨by omega, by omega⟩ ⟨by omega, by omega⟩ dL_law_493 (fun r2 M1 h => ?_)
  refine ra_istore (L' := [(5, _), (4, _), (3, _), (2, _), (1, _), (0, _)]) E dL_law_496 (by decide) rfl ?_
  refine ra_aload_n E dL_law_498 rfl 3 rfl ?_
  refine ra_aload_n E dL_law_499 rfl 5 rfl ?_
  refine ra_iload E dL_law_500 1 rfl ?_
  refine ra_iconst E dL_law_502 ki_1 ?_
  refine ra_iadd E dL_law_503 ?_
  refine ra_sld E hX hbl hbA hw1 dL_law_504 ?_
  refine ra_callIV (rest := []) E (c_X13_lockWait _ _ _ h) lq_13L cv_X13_lockWait ml_L_191 (by decide) (lmL (k := 699) (by decide)) (fun R => ⟨_, cel_699 tc ad R⟩) rfl rfl rfl (Nat.le_of_ble_eq_true rfl) ⟨by omega, by omega⟩ ⟨by omega, by omega⟩ dL_law_505 (fun r4 M3 h => ?_)
  refine ra_istore (L' := [(6, _), (5, _), (4, _), (3, _), (2, _), (1, _), (0, _)]) E dL_law_508 (by decide) rfl ?_
  refine ra_aload_n E dL_law_510 rfl 4 rfl ?_
  refine ra_callIV (rest := []) E (c_X13_thrown _ _ h) lq_13L cv_X13_thrown ml_L_170 (by decide) (lmL (k := 699) (by decide)) (fun R => ⟨_, cel_699 tc ad R⟩) rfl rfl rfl (Nat.le_of_ble_eq_true rfl) ⟨by omega, by omega⟩ ⟨by omega, by omega⟩ dL_law_511 (fun r6 M5 h => ?_)
  refine ra_iload E dL_law_514 1 rfl ?_
  refine ra_icmp_eq (tgt := 521) E dL_law_516 (by decide) (fun q7 => ?_) (fun q7 => ?_)
  · replace h := h.1 q7
    refine ra_iload E dL_law_521 1 rfl ?_
    refine ra_if_ne (tgt := 538) E dL_law_523 (by decide) (fun q8 => ?_) (fun q8 => ?_)
    · replace h := h.1 q8
      refine ra_goto (tgt := 3273) E dL_law_538 (by decide) ?_
      exact ra_sub (L' := [(4, _), (3, _), (2, _), (1, _), (0, _)]) [2, 3, 4, 5, 6] rfl (ra_widen (k := cells + 16) (n := slots + 96) (by omega) (by omega) (hK _ h))
    · replace h := h.2 q8
      refine ra_aload_n E dL_law_526 rfl 3 rfl ?_
      refine ra_iconst E dL_law_527 ki_0 ?_
      refine ra_lald E (lmL (by decide)) rfl dL_law_528 ?_
      refine ra_iload E dL_law_529 0 rfl ?_
      refine ra_i2l E dL_law_531 rfl ?_
      refine ra_lcmp E dL_law_532 ?_
      refine ra_if_eq (tgt := 538) E dL_law_533 (by decide) (fun q9 => ?_) (fun q9 => ?_)
      · replace h := h.1 q9
        refine ra_goto (tgt := 3273) E dL_law_538 (by decide) ?_
        exact ra_sub (L' := [(4, _), (3, _), (2, _), (1, _), (0, _)]) [2, 3, 4, 5, 6] rfl (ra_widen (k := cells + 16) (n := slots + 96) (by omega) (by omega) (hK _ h))
      · replace h := h.2 q9
        refine ra_iconst E dL_law_536 ki_0 ?_
        exact h.elim
  · replace h := h.2 q7
    refine ra_iconst E dL_law_519 ki_0 ?_
    exact h.elim
def f_law_7 (xs : Nat → Int32) (i : Int32) (M : TM) (K : TM → Prop) : Prop := f_L_clearance (xs (i + (1 : Int32)).toNatClampNeg) M (fun r2 M1 => f_X13_clearance (xs (i + (1 : Int32)).toNatClampNeg) M1 (fun r4 M3 => f_X13_thrown M3 (fun r6 M5 => ((r6 = r2 → ((¬ r2 = 0 → K M5) ∧ (r2 = 0 → (((lg_cmp (M5 710 0).toInt64 r4.toInt64) = 0 → K M5) ∧ (¬ (lg_cmp (M5 710 0).toInt64 r4.toInt64) = 0 → False))))) ∧ (¬ r6 = r2 → False)))))
set_option maxRecDepth 100000 in
set_option maxHeartbeats 4000000 in
theorem l_law_7 {p : Program} {l : Launch} {e : Env} {R : Room} {s : State} {m : MethodId} {args : Array Value} {below : List Frame} {meth : Method} {c : Code} {cells slots : Nat} {Q : State → Prop} {D : va_G} {tc : Nat → ClassId} {ad : Nat → Nat} {b Lx : Nat} {xs : Nat → Int32} {i : Int32} {K : TM → Prop} (E : Ev p s m args meth c D tc ad RL cL_law 9) (hfl : l.stackTraces = false) (hX : va_X b Lx xs s s.heap) (hbl : b < s.heap.size) (hbA : ¬ A0 ad s.heap.size b) (hw0 : vp_in i Lx) (hw1 : vp_in (i + (1 : Int32)) Lx) (hw2 : vp_in (i + (2 : Int32)) Lx) (hw3 : vp_in (i + (3 : Int32)) Lx) (hw4 : vp_in (i + (4 : Int32)) Lx) (hw5 : vp_in (i + (5 : Int32)) Lx) (hRm : 40 ≤ R.frames ∧ 1640 ≤ R.locals) (hcl : cells + 16 ≤ R.cells ∧ slots + 96 ≤ R.slots) (hK : ∀ M', K M' → Wa p l e R s m args below meth c (cells + 16) (slots + 96) Q D tc ad 9 M' 3273 [(4, .int i), (3, .ref (ad 710)), (2, .ref (ad 699)), (1, .ref (ad 0)), (0, .ref b)] []) (M : TM) (h : f_law_7 xs i M K) : Wa p l e R s m args below meth c cells slots Q D tc ad 9 M 541 [(4, .int i), (3, .ref (ad 710)), (2, .ref (ad 699)), (1, .ref (ad 0)), (0, .ref b)] [] := by
  unfold f_law_7 at h
  refine ra_aload_n E dL_law_541 rfl 3 rfl ?_
  refine ra_aload_n E dL_law_542 rfl 4 rfl ?_
  refine ra_iload E dL_law_543 0 rfl ?_
  refine ra_iconst E dL_law_545 ki_1 ?_
  refine ra_iadd E dL_law_546 ?_
  refine ra_sld E hX hbl hbA hw1 dL_law_547 ?_
  refine ra_aload_n E dL_law_548 rfl 1 rfl ?_
  refine rx_callW (rest := []) E hfl (c_L_clearance _ _ _ h) lq_L ctw_L_clearance ml_L_192 (by decide) rfl rfl (Nat.le_of_ble_eq_true rfl) ⟨by omega, by omega⟩ ⟨by omega, by omega⟩ dL_law_549 (fun r2 M1 h => ?_)
  refine ra_istore (L' := [(5, _), (4, _), (3, _), (2, _), (1, _), (0, _)]) E dL_law_552 (by decide) rfl ?_
  refine ra_aload_n E dL_law_554 rfl 3 rfl ?_
  refine ra_aload_n E dL_law_555 rfl 5 rfl ?_
  refine ra_iload E dL_law_556 1 rfl ?_
  refine ra_iconst E dL_law_558 ki_1 ?_
  refine ra_iadd E dL_law_559 ?_
  refine ra_sld E hX hbl hbA hw1 dL_law_560 ?_
  refine ra_callIV (rest := []) E (c_X13_clearance _ _ _ h) lq_13L cv_X13_clearance ml_L_194 (by decide) (lmL (k := 699) (by decide)) (fun R => ⟨_, cel_699 tc ad R⟩) rfl rfl rfl (Nat.le_of_ble_eq_true rfl) ⟨by omega, by omega⟩ ⟨by omega, by omega⟩ dL_law_561 (fun r4 M3 h => ?_)
  refine ra_istore (L' := [(6, _), (5, _), (4, _), (3, _), (2, _), (1, _), (0, _)]) E dL_law_564 (by decide) rfl ?_
  refine ra_aload_n E dL_law_566 rfl 4 rfl ?_
  refine ra_callIV (rest := []) E (c_X13_thrown _ _ h) lq_13L cv_X13_thrown ml_L_170 (by decide) (lmL (k := 699) (by decide)) (fun R => ⟨_, cel_699 tc ad R⟩) rfl rfl rfl (Nat.le_of_ble_eq_true rfl) ⟨by omega, by omega⟩ ⟨by omega, by omega⟩ dL_law_567 (fun r6 M5 h => ?_)
  refine ra_iload E dL_law_570 1 rfl ?_
  refine ra_icmp_eq (tgt := 577) E dL_law_572 (by decide) (fun q7 => ?_) (fun q7 => ?_)
  · replace h := h.1 q7
    refine ra_iload E dL_law_577 1 rfl ?_
    refine ra_if_ne (tgt := 594) E dL_law_579 (by decide) (fun q8 => ?_) (fun q8 => ?_)
    · replace h := h.1 q8
      refine ra_goto (tgt := 3273) E dL_law_594 (by decide) ?_
      exact ra_sub (L' := [(4, _), (3, _), (2, _), (1, _), (0, _)]) [2, 3, 4, 5, 6] rfl (ra_widen (k := cells + 16) (n := slots + 96) (by omega) (by omega) (hK _ h))
    · replace h := h.2 q8
      refine ra_aload_n E dL_law_582 rfl 3 rfl ?_
      refine ra_iconst E dL_law_583 ki_0 ?_
      refine ra_lald E (lmL (by decide)) rfl dL_law_584 ?_
      refine ra_iload E dL_law_585 0 rfl ?_
      refine ra_i2l E dL_law_587 rfl ?_
      refine ra_lcmp E dL_law_588 ?_
      refine ra_if_eq (tgt := 594) E dL_law_589 (by decide) (fun q9 => ?_) (fun q9 => ?_)
      · replace h := h.1 q9
        refine ra_goto (tgt := 3273) E dL_law_594 (by decide) ?_
        exact ra_sub (L' := [(4, _), (3, _), (2, _), (1, _), (0, _)]) [2, 3, 4, 5, 6] rfl (ra_widen (k := cells + 16) (n := slots + 96) (by omega) (by omega) (hK _ h))
      · replace h := h.2 q9
        refine ra_iconst E dL_law_592 ki_0 ?_
        exact h.elim
  · replace h := h.2 q7
    refine ra_iconst E dL_law_575 ki_0 ?_
    exact h.elim
def f_law_8 (xs : Nat → Int32) (i : Int32) (M : TM) (K : TM → Prop) : Prop := f_L_bargeInLock (xs (i + (1 : Int32)).toNatClampNeg) M (fun r2 M1 => f_X13_bargeInLock (xs (i + (1 : Int32)).toNatClampNeg) M1 (fun r4 M3 => f_X13_thrown M3 (fun r6 M5 => ((r6 = r2 → ((¬ r2 = 0 → K M5) ∧ (r2 = 0 → (((lg_cmp (M5 710 0).toInt64 r4.toInt64) = 0 → K M5) ∧ (¬ (lg_cmp (M5 710 0).toInt64 r4.toInt64) = 0 → False))))) ∧ (¬ r6 = r2 → False)))))
set_option maxRecDepth 100000 in
set_option maxHeartbeats 4000000 in
theorem l_law_8 {p : Program} {l : Launch} {e : Env} {R : Room} {s : State} {m : MethodId} {args : Array Value} {below : List Frame} {meth : Method} {c : Code} {cells slots : Nat} {Q : State → Prop} {D : va_G} {tc : Nat → ClassId} {ad : Nat → Nat} {b Lx : Nat} {xs : Nat → Int32} {i : Int32} {K : TM → Prop} (E : Ev p s m args meth c D tc ad RL cL_law 9) (hfl : l.stackTraces = false) (hX : va_X b Lx xs s s.heap) (hbl : b < s.heap.size) (hbA : ¬ A0 ad s.heap.size b) (hw0 : vp_in i Lx) (hw1 : vp_in (i + (1 : Int32)) Lx) (hw2 : vp_in (i + (2 : Int32)) Lx) (hw3 : vp_in (i + (3 : Int32)) Lx) (hw4 : vp_in (i + (4 : Int32)) Lx) (hw5 : vp_in (i + (5 : Int32)) Lx) (hRm : 40 ≤ R.frames ∧ 1640 ≤ R.locals) (hcl : cells + 16 ≤ R.cells ∧ slots + 96 ≤ R.slots) (hK : ∀ M', K M' → Wa p l e R s m args below meth c (cells + 16) (slots + 96) Q D tc ad 9 M' 3273 [(4, .int i), (3, .ref (ad 710)), (2, .ref (ad 699)), (1, .ref (ad 0)), (0, .ref b)] []) (M : TM) (h : f_law_8 xs i M K) : Wa p l e R s m args below meth c cells slots Q D tc ad 9 M 597 [(4, .int i), (3, .ref (ad 710)), (2, .ref (ad 699)), (1, .ref (ad 0)), (0, .ref b)] [] := by
  unfold f_law_8 at h
  refine ra_aload_n E dL_law_597 rfl 3 rfl ?_
  refine ra_aload_n E dL_law_598 rfl 4 rfl ?_
  refine ra_iload E dL_law_599 0 rfl ?_
  refine ra_iconst E dL_law_601 ki_1 ?_
  refine ra_iadd E dL_law_602 ?_
  refine ra_sld E hX hbl hbA hw1 dL_law_603 ?_
  refine ra_aload_n E dL_law_604 rfl 1 rfl ?_
  refine rx_callW (rest := []) E hfl (c_L_bargeInLock _ _ _ h) lq_L ctw_L_bargeInLock ml_L_195 (by decide) rfl rfl (Nat.le_of_ble_eq_true rfl) ⟨by omega, by omega⟩ ⟨by omega, by omega⟩ dL_law_605 (fun r2 M1 h => ?_)
  refine ra_istore (L' := [(5, _), (4, _), (3, _), (2, _), (1, _), (0, _)]) E dL_law_608 (by decide) rfl ?_
  refine ra_aload_n E dL_law_610 rfl 3 rfl ?_
  refine ra_aload_n E dL_law_611 rfl 5 rfl ?_
  refine ra_iload E dL_law_612 1 rfl ?_
  refine ra_iconst E dL_law_614 ki_1 ?_
  refine ra_iadd E dL_law_615 ?_
  refine ra_sld E hX hbl hbA hw1 dL_law_616 ?_
  refine ra_callIV (rest := []) E (c_X13_bargeInLock _ _ _ h) lq_13L cv_X13_bargeInLock ml_L_197 (by decide) (lmL (k := 699) (by decide)) (fun R => ⟨_, cel_699 tc ad R⟩) rfl rfl rfl (Nat.le_of_ble_eq_true rfl) ⟨by omega, by omega⟩ ⟨by omega, by omega⟩ dL_law_617 (fun r4 M3 h => ?_)
  refine ra_istore (L' := [(6, _), (5, _), (4, _), (3, _), (2, _), (1, _), (0, _)]) E dL_law_620 (by decide) rfl ?_
  refine ra_aload_n E dL_law_622 rfl 4 rfl ?_
  refine ra_callIV (rest := []) E (c_X13_thrown _ _ h) lq_13L cv_X13_thrown ml_L_170 (by decide) (lmL (k := 699) (by decide)) (fun R => ⟨_, cel_699 tc ad R⟩) rfl rfl rfl (Nat.le_of_ble_eq_true rfl) ⟨by omega, by omega⟩ ⟨by omega, by omega⟩ dL_law_623 (fun r6 M5 h => ?_)
  refine ra_iload E dL_law_626 1 rfl ?_
  refine ra_icmp_eq (tgt := 633) E dL_law_628 (by decide) (fun q7 => ?_) (fun q7 => ?_)
  · replace h := h.1 q7
    refine ra_iload E dL_law_633 1 rfl ?_
    refine ra_if_ne (tgt := 650) E dL_law_635 (by decide) (fun q8 => ?_) (fun q8 => ?_)
    · replace h := h.1 q8
      refine ra_goto (tgt := 3273) E dL_law_650 (by decide) ?_
      exact ra_sub (L' := [(4, _), (3, _), (2, _), (1, _), (0, _)]) [2, 3, 4, 5, 6] rfl (ra_widen (k := cells + 16) (n := slots + 96) (by omega) (by omega) (hK _ h))
    · replace h := h.2 q8
      refine ra_aload_n E dL_law_638 rfl 3 rfl ?_
      refine ra_iconst E dL_law_639 ki_0 ?_
      refine ra_lald E (lmL (by decide)) rfl dL_law_640 ?_
      refine ra_iload E dL_law_641 0 rfl ?_
      refine ra_i2l E dL_law_643 rfl ?_
      refine ra_lcmp E dL_law_644 ?_
      refine ra_if_eq (tgt := 650) E dL_law_645 (by decide) (fun q9 => ?_) (fun q9 => ?_)
      · replace h := h.1 q9
        refine ra_goto (tgt := 3273) E dL_law_650 (by decide) ?_
        exact ra_sub (L' := [(4, _), (3, _), (2, _), (1, _), (0, _)]) [2, 3, 4, 5, 6] rfl (ra_widen (k := cells + 16) (n := slots + 96) (by omega) (by omega) (hK _ h))
      · replace h := h.2 q9
        refine ra_iconst E dL_law_648 ki_0 ?_
        exact h.elim
  · replace h := h.2 q7
    refine ra_iconst E dL_law_631 ki_0 ?_
    exact h.elim
def f_law_9 (xs : Nat → Int32) (i : Int32) (M : TM) (K : TM → Prop) : Prop := f_L_usedPairs (xs (i + (1 : Int32)).toNatClampNeg) M (fun r2 M1 => f_X13_usedPairs (xs (i + (1 : Int32)).toNatClampNeg) M1 (fun r4 M3 => f_X13_thrown M3 (fun r6 M5 => ((r6 = r2 → ((¬ r2 = 0 → K M5) ∧ (r2 = 0 → (((lg_cmp (M5 710 0).toInt64 r4.toInt64) = 0 → K M5) ∧ (¬ (lg_cmp (M5 710 0).toInt64 r4.toInt64) = 0 → False))))) ∧ (¬ r6 = r2 → False)))))
set_option maxRecDepth 100000 in
set_option maxHeartbeats 4000000 in
theorem l_law_9 {p : Program} {l : Launch} {e : Env} {R : Room} {s : State} {m : MethodId} {args : Array Value} {below : List Frame} {meth : Method} {c : Code} {cells slots : Nat} {Q : State → Prop} {D : va_G} {tc : Nat → ClassId} {ad : Nat → Nat} {b Lx : Nat} {xs : Nat → Int32} {i : Int32} {K : TM → Prop} (E : Ev p s m args meth c D tc ad RL cL_law 9) (hfl : l.stackTraces = false) (hX : va_X b Lx xs s s.heap) (hbl : b < s.heap.size) (hbA : ¬ A0 ad s.heap.size b) (hw0 : vp_in i Lx) (hw1 : vp_in (i + (1 : Int32)) Lx) (hw2 : vp_in (i + (2 : Int32)) Lx) (hw3 : vp_in (i + (3 : Int32)) Lx) (hw4 : vp_in (i + (4 : Int32)) Lx) (hw5 : vp_in (i + (5 : Int32)) Lx) (hRm : 40 ≤ R.frames ∧ 1640 ≤ R.locals) (hcl : cells + 16 ≤ R.cells ∧ slots + 96 ≤ R.slots) (hK : ∀ M', K M' → Wa p l e R s m args below meth c (cells + 16) (slots + 96) Q D tc ad 9 M' 3273 [(4, .int i), (3, .ref (ad 710)), (2, .ref (ad 699)), (1, .ref (ad 0)), (0, .ref b)] []) (M : TM) (h : f_law_9 xs i M K) : Wa p l e R s m args below meth c cells slots Q D tc ad 9 M 653 [(4, .int i), (3, .ref (ad 710)), (2, .ref (ad 699)), (1, .ref (ad 0)), (0, .ref b)] [] := by
  unfold f_law_9 at h
  refine ra_aload_n E dL_law_653 rfl 3 rfl ?_
  refine ra_aload_n E dL_law_654 rfl 4 rfl ?_
  refine ra_iload E dL_law_655 0 rfl ?_
  refine ra_iconst E dL_law_657 ki_1 ?_
  refine ra_iadd E dL_law_658 ?_
  refine ra_sld E hX hbl hbA hw1 dL_law_659 ?_
  refine ra_aload_n E dL_law_660 rfl 1 rfl ?_
  refine rx_callW (rest := []) E hfl (c_L_usedPairs _ _ _ h) lq_L ctw_L_usedPairs ml_L_198 (by decide) rfl rfl (Nat.le_of_ble_eq_true rfl) ⟨by omega, by omega⟩ ⟨by omega, by omega⟩ dL_law_661 (fun r2 M1 h => ?_)
  refine ra_istore (L' := [(5, _), (4, _), (3, _), (2, _), (1, _), (0, _)]) E dL_law_664 (by decide) rfl ?_
  refine ra_aload_n E dL_law_666 rfl 3 rfl ?_
  refine ra_aload_n E dL_law_667 rfl 5 rfl ?_
  refine ra_iload E dL_law_668 1 rfl ?_
  refine ra_iconst E dL_law_670 ki_1 ?_
  refine ra_iadd E dL_law_671 ?_
  refine ra_sld E hX hbl hbA hw1 dL_law_672 ?_
  refine ra_callIV (rest := []) E (c_X13_usedPairs _ _ _ h) lq_13L cv_X13_usedPairs ml_L_200 (by decide) (lmL (k := 699) (by decide)) (fun R => ⟨_, cel_699 tc ad R⟩) rfl rfl rfl (Nat.le_of_ble_eq_true rfl) ⟨by omega, by omega⟩ ⟨by omega, by omega⟩ dL_law_673 (fun r4 M3 h => ?_)
  refine ra_istore (L' := [(6, _), (5, _), (4, _), (3, _), (2, _), (1, _), (0, _)]) E dL_law_676 (by decide) rfl ?_
  refine ra_aload_n E dL_law_678 rfl 4 rfl ?_
  refine ra_callIV (rest := []) E (c_X13_thrown _ _ h) lq_13L cv_X13_thrown ml_L_170 (by decide) (lmL (k := 699) (by decide)) (fun R => ⟨_, cel_699 tc ad R⟩) rfl rfl rfl (Nat.le_of_ble_eq_true rfl) ⟨by omega, by omega⟩ ⟨by omega, by omega⟩ dL_law_679 (fun r6 M5 h => ?_)
  refine ra_iload E dL_law_682 1 rfl ?_
  refine ra_icmp_eq (tgt := 689) E dL_law_684 (by decide) (fun q7 => ?_) (fun q7 => ?_)
  · replace h := h.1 q7
    refine ra_iload E dL_law_689 1 rfl ?_
    refine ra_if_ne (tgt := 706) E dL_law_691 (by decide) (fun q8 => ?_) (fun q8 => ?_)
    · replace h := h.1 q8
      refine ra_goto (tgt := 3273) E dL_law_706 (by decide) ?_
      exact ra_sub (L' := [(4, _), (3, _), (2, _), (1, _), (0, _)]) [2, 3, 4, 5, 6] rfl (ra_widen (k := cells + 16) (n := slots + 96) (by omega) (by omega) (hK _ h))
    · replace h := h.2 q8
      refine ra_aload_n E dL_law_694 rfl 3 rfl ?_
      refine ra_iconst E dL_law_695 ki_0 ?_
      refine ra_lald E (lmL (by decide)) rfl dL_law_696 ?_
      refine ra_iload E dL_law_697 0 rfl ?_
      refine ra_i2l E dL_law_699 rfl ?_
      refine ra_lcmp E dL_law_700 ?_
      refine ra_if_eq (tgt := 706) E dL_law_701 (by decide) (fun q9 => ?_) (fun q9 => ?_)
      · replace h := h.1 q9
        refine ra_goto (tgt := 3273) E dL_law_706 (by decide) ?_
        exact ra_sub (L' := [(4, _), (3, _), (2, _), (1, _), (0, _)]) [2, 3, 4, 5, 6] rfl (ra_widen (k := cells + 16) (n := slots + 96) (by omega) (by omega) (hK _ h))
      · replace h := h.2 q9
        refine ra_iconst E dL_law_704 ki_0 ?_
        exact h.elim
  · replace h := h.2 q7
    refine ra_iconst E dL_law_687 ki_0 ?_
    exact h.elim
def f_law_10 (xs : Nat → Int32) (i : Int32) (M : TM) (K : TM → Prop) : Prop := f_L_bargesAt (xs (i + (1 : Int32)).toNatClampNeg) M (fun r2 M1 => f_X13_bargesAt (xs (i + (1 : Int32)).toNatClampNeg) M1 (fun r4 M3 => f_X13_thrown M3 (fun r6 M5 => ((r6 = r2 → ((¬ r2 = 0 → K M5) ∧ (r2 = 0 → (((lg_cmp (M5 710 0).toInt64 r4.toInt64) = 0 → K M5) ∧ (¬ (lg_cmp (M5 710 0).toInt64 r4.toInt64) = 0 → False))))) ∧ (¬ r6 = r2 → False)))))
set_option maxRecDepth 100000 in
set_option maxHeartbeats 4000000 in
theorem l_law_10 {p : Program} {l : Launch} {e : Env} {R : Room} {s : State} {m : MethodId} {args : Array Value} {below : List Frame} {meth : Method} {c : Code} {cells slots : Nat} {Q : State → Prop} {D : va_G} {tc : Nat → ClassId} {ad : Nat → Nat} {b Lx : Nat} {xs : Nat → Int32} {i : Int32} {K : TM → Prop} (E : Ev p s m args meth c D tc ad RL cL_law 9) (hfl : l.stackTraces = false) (hX : va_X b Lx xs s s.heap) (hbl : b < s.heap.size) (hbA : ¬ A0 ad s.heap.size b) (hw0 : vp_in i Lx) (hw1 : vp_in (i + (1 : Int32)) Lx) (hw2 : vp_in (i + (2 : Int32)) Lx) (hw3 : vp_in (i + (3 : Int32)) Lx) (hw4 : vp_in (i + (4 : Int32)) Lx) (hw5 : vp_in (i + (5 : Int32)) Lx) (hRm : 40 ≤ R.frames ∧ 1640 ≤ R.locals) (hcl : cells + 16 ≤ R.cells ∧ slots + 96 ≤ R.slots) (hK : ∀ M', K M' → Wa p l e R s m args below meth c (cells + 16) (slots + 96) Q D tc ad 9 M' 3273 [(4, .int i), (3, .ref (ad 710)), (2, .ref (ad 699)), (1, .ref (ad 0)), (0, .ref b)] []) (M : TM) (h : f_law_10 xs i M K) : Wa p l e R s m args below meth c cells slots Q D tc ad 9 M 709 [(4, .int i), (3, .ref (ad 710)), (2, .ref (ad 699)), (1, .ref (ad 0)), (0, .ref b)] [] := by
  unfold f_law_10 at h
  refine ra_aload_n E dL_law_709 rfl 3 rfl ?_
  refine ra_aload_n E dL_law_710 rfl 4 rfl ?_
  refine ra_iload E dL_law_711 0 rfl ?_
  refine ra_iconst E dL_law_713 ki_1 ?_
  refine ra_iadd E dL_law_714 ?_
  refine ra_sld E hX hbl hbA hw1 dL_law_715 ?_
  refine ra_aload_n E dL_law_716 rfl 1 rfl ?_
  refine rx_callW (rest := []) E hfl (c_L_bargesAt _ _ _ h) lq_L ctw_L_bargesAt ml_L_201 (by decide) rfl rfl (Nat.le_of_ble_eq_true rfl) ⟨by omega, by omega⟩ ⟨by omega, by omega⟩ dL_law_717 (fun r2 M1 h => ?_)
  refine ra_istore (L' := [(5, _), (4, _), (3, _), (2, _), (1, _), (0, _)]) E dL_law_720 (by decide) rfl ?_
  refine ra_aload_n E dL_law_722 rfl 3 rfl ?_
  refine ra_aload_n E dL_law_723 rfl 5 rfl ?_
  refine ra_iload E dL_law_724 1 rfl ?_
  refine ra_iconst E dL_law_726 ki_1 ?_
  refine ra_iadd E dL_law_727 ?_
  refine ra_sld E hX hbl hbA hw1 dL_law_728 ?_
  refine ra_callIV (rest := []) E (c_X13_bargesAt _ _ _ h) lq_13L cv_X13_bargesAt ml_L_203 (by decide) (lmL (k := 699) (by decide)) (fun R => ⟨_, cel_699 tc ad R⟩) rfl rfl rfl (Nat.le_of_ble_eq_true rfl) ⟨by omega, by omega⟩ ⟨by omega, by omega⟩ dL_law_729 (fun r4 M3 h => ?_)
  refine ra_istore (L' := [(6, _), (5, _), (4, _), (3, _), (2, _), (1, _), (0, _)]) E dL_law_732 (by decide) rfl ?_
  refine ra_aload_n E dL_law_734 rfl 4 rfl ?_
  refine ra_callIV (rest := []) E (c_X13_thrown _ _ h) lq_13L cv_X13_thrown ml_L_170 (by decide) (lmL (k := 699) (by decide)) (fun R => ⟨_, cel_699 tc ad R⟩) rfl rfl rfl (Nat.le_of_ble_eq_true rfl) ⟨by omega, by omega⟩ ⟨by omega, by omega⟩ dL_law_735 (fun r6 M5 h => ?_)
  refine ra_iload E dL_law_738 1 rfl ?_
  refine ra_icmp_eq (tgt := 745) E dL_law_740 (by decide) (fun q7 => ?_) (fun q7 => ?_)
  · replace h := h.1 q7
    refine ra_iload E dL_law_745 1 rfl ?_
    refine ra_if_ne (tgt := 762) E dL_law_747 (by decide) (fun q8 => ?_) (fun q8 => ?_)
    · replace h := h.1 q8
      refine ra_goto (tgt := 3273) E dL_law_762 (by decide) ?_
      exact ra_sub (L' := [(4, _), (3, _), (2, _), (1, _), (0, _)]) [2, 3, 4, 5, 6] rfl (ra_widen (k := cells + 16) (n := slots + 96) (by omega) (by omega) (hK _ h))
    · replace h := h.2 q8
      refine ra_aload_n E dL_law_750 rfl 3 rfl ?_
      refine ra_iconst E dL_law_751 ki_0 ?_
      refine ra_lald E (lmL (by decide)) rfl dL_law_752 ?_
      refine ra_iload E dL_law_753 0 rfl ?_
      refine ra_i2l E dL_law_755 rfl ?_
      refine ra_lcmp E dL_law_756 ?_
      refine ra_if_eq (tgt := 762) E dL_law_757 (by decide) (fun q9 => ?_) (fun q9 => ?_)
      · replace h := h.1 q9
        refine ra_goto (tgt := 3273) E dL_law_762 (by decide) ?_
        exact ra_sub (L' := [(4, _), (3, _), (2, _), (1, _), (0, _)]) [2, 3, 4, 5, 6] rfl (ra_widen (k := cells + 16) (n := slots + 96) (by omega) (by omega) (hK _ h))
      · replace h := h.2 q9
        refine ra_iconst E dL_law_760 ki_0 ?_
        exact h.elim
  · replace h := h.2 q7
    refine ra_iconst E dL_law_743 ki_0 ?_
    exact h.elim
def f_law_11 (xs : Nat → Int32) (i : Int32) (M : TM) (K : TM → Prop) : Prop := f_L_ordersAt (xs (i + (1 : Int32)).toNatClampNeg) M (fun r2 M1 => f_X13_ordersAt (xs (i + (1 : Int32)).toNatClampNeg) M1 (fun r4 M3 => f_X13_thrown M3 (fun r6 M5 => ((r6 = r2 → ((¬ r2 = 0 → K M5) ∧ (r2 = 0 → (((lg_cmp (M5 710 0).toInt64 r4.toInt64) = 0 → K M5) ∧ (¬ (lg_cmp (M5 710 0).toInt64 r4.toInt64) = 0 → False))))) ∧ (¬ r6 = r2 → False)))))
set_option maxRecDepth 100000 in
set_option maxHeartbeats 4000000 in
theorem l_law_11 {p : Program} {l : Launch} {e : Env} {R : Room} {s : State} {m : MethodId} {args : Array Value} {below : List Frame} {meth : Method} {c : Code} {cells slots : Nat} {Q : State → Prop} {D : va_G} {tc : Nat → ClassId} {ad : Nat → Nat} {b Lx : Nat} {xs : Nat → Int32} {i : Int32} {K : TM → Prop} (E : Ev p s m args meth c D tc ad RL cL_law 9) (hfl : l.stackTraces = false) (hX : va_X b Lx xs s s.heap) (hbl : b < s.heap.size) (hbA : ¬ A0 ad s.heap.size b) (hw0 : vp_in i Lx) (hw1 : vp_in (i + (1 : Int32)) Lx) (hw2 : vp_in (i + (2 : Int32)) Lx) (hw3 : vp_in (i + (3 : Int32)) Lx) (hw4 : vp_in (i + (4 : Int32)) Lx) (hw5 : vp_in (i + (5 : Int32)) Lx) (hRm : 40 ≤ R.frames ∧ 1640 ≤ R.locals) (hcl : cells + 16 ≤ R.cells ∧ slots + 96 ≤ R.slots) (hK : ∀ M', K M' → Wa p l e R s m args below meth c (cells + 16) (slots + 96) Q D tc ad 9 M' 3273 [(4, .int i), (3, .ref (ad 710)), (2, .ref (ad 699)), (1, .ref (ad 0)), (0, .ref b)] []) (M : TM) (h : f_law_11 xs i M K) : Wa p l e R s m args below meth c cells slots Q D tc ad 9 M 765 [(4, .int i), (3, .ref (ad 710)), (2, .ref (ad 699)), (1, .ref (ad 0)), (0, .ref b)] [] := by
  unfold f_law_11 at h
  refine ra_aload_n E dL_law_765 rfl 3 rfl ?_
  refine ra_aload_n E dL_law_766 rfl 4 rfl ?_
  refine ra_iload E dL_law_767 0 rfl ?_
  refine ra_iconst E dL_law_769 ki_1 ?_
  refine ra_iadd E dL_law_770 ?_
  refine ra_sld E hX hbl hbA hw1 dL_law_771 ?_
  refine ra_aload_n E dL_law_772 rfl 1 rfl ?_
  refine rx_callW (rest := []) E hfl (c_L_ordersAt _ _ _ h) lq_L ctw_L_ordersAt ml_L_204 (by decide) rfl rfl (Nat.le_of_ble_eq_true rfl) ⟨by omega, by omega⟩ ⟨by omega, by omega⟩ dL_law_773 (fun r2 M1 h => ?_)
  refine ra_istore (L' := [(5, _), (4, _), (3, _), (2, _), (1, _), (0, _)]) E dL_law_776 (by decide) rfl ?_
  refine ra_aload_n E dL_law_778 rfl 3 rfl ?_
  refine ra_aload_n E dL_law_779 rfl 5 rfl ?_
  refine ra_iload E dL_law_780 1 rfl ?_
  refine ra_iconst E dL_law_782 ki_1 ?_
  refine ra_iadd E dL_law_783 ?_
  refine ra_sld E hX hbl hbA hw1 dL_law_784 ?_
  refine ra_callIV (rest := []) E (c_X13_ordersAt _ _ _ h) lq_13L cv_X13_ordersAt ml_L_206 (by decide) (lmL (k := 699) (by decide)) (fun R => ⟨_, cel_699 tc ad R⟩) rfl rfl rfl (Nat.le_of_ble_eq_true rfl) ⟨by omega, by omega⟩ ⟨by omega, by omega⟩ dL_law_785 (fun r4 M3 h => ?_)
  refine ra_istore (L' := [(6, _), (5, _), (4, _), (3, _), (2, _), (1, _), (0, _)]) E dL_law_788 (by decide) rfl ?_
  refine ra_aload_n E dL_law_790 rfl 4 rfl ?_
  refine ra_callIV (rest := []) E (c_X13_thrown _ _ h) lq_13L cv_X13_thrown ml_L_170 (by decide) (lmL (k := 699) (by decide)) (fun R => ⟨_, cel_699 tc ad R⟩) rfl rfl rfl (Nat.le_of_ble_eq_true rfl) ⟨by omega, by omega⟩ ⟨by omega, by omega⟩ dL_law_791 (fun r6 M5 h => ?_)
  refine ra_iload E dL_law_794 1 rfl ?_
  refine ra_icmp_eq (tgt := 801) E dL_law_796 (by decide) (fun q7 => ?_) (fun q7 => ?_)
  · replace h := h.1 q7
    refine ra_iload E dL_law_801 1 rfl ?_
    refine ra_if_ne (tgt := 818) E dL_law_803 (by decide) (fun q8 => ?_) (fun q8 => ?_)
    · replace h := h.1 q8
      refine ra_goto (tgt := 3273) E dL_law_818 (by decide) ?_
      exact ra_sub (L' := [(4, _), (3, _), (2, _), (1, _), (0, _)]) [2, 3, 4, 5, 6] rfl (ra_widen (k := cells + 16) (n := slots + 96) (by omega) (by omega) (hK _ h))
    · replace h := h.2 q8
      refine ra_aload_n E dL_law_806 rfl 3 rfl ?_
      refine ra_iconst E dL_law_807 ki_0 ?_
      refine ra_lald E (lmL (by decide)) rfl dL_law_808 ?_
      refine ra_iload E dL_law_809 0 rfl ?_
      refine ra_i2l E dL_law_811 rfl ?_
      refine ra_lcmp E dL_law_812 ?_
      refine ra_if_eq (tgt := 818) E dL_law_813 (by decide) (fun q9 => ?_) (fun q9 => ?_)
      · replace h := h.1 q9
        refine ra_goto (tgt := 3273) E dL_law_818 (by decide) ?_
        exact ra_sub (L' := [(4, _), (3, _), (2, _), (1, _), (0, _)]) [2, 3, 4, 5, 6] rfl (ra_widen (k := cells + 16) (n := slots + 96) (by omega) (by omega) (hK _ h))
      · replace h := h.2 q9
        refine ra_iconst E dL_law_816 ki_0 ?_
        exact h.elim
  · replace h := h.2 q7
    refine ra_iconst E dL_law_799 ki_0 ?_
    exact h.elim
def f_law_12 (xs : Nat → Int32) (i : Int32) (M : TM) (K : TM → Prop) : Prop := f_X12_bargeCount M (fun r2 M1 => f_X13_bargeCount M1 (fun r4 M3 => ((r2 = r4 → K M3) ∧ (¬ r2 = r4 → False))))
set_option maxRecDepth 100000 in
set_option maxHeartbeats 4000000 in
theorem l_law_12 {p : Program} {l : Launch} {e : Env} {R : Room} {s : State} {m : MethodId} {args : Array Value} {below : List Frame} {meth : Method} {c : Code} {cells slots : Nat} {Q : State → Prop} {D : va_G} {tc : Nat → ClassId} {ad : Nat → Nat} {b Lx : Nat} {xs : Nat → Int32} {i : Int32} {K : TM → Prop} (E : Ev p s m args meth c D tc ad RL cL_law 9) (hfl : l.stackTraces = false) (hX : va_X b Lx xs s s.heap) (hbl : b < s.heap.size) (hbA : ¬ A0 ad s.heap.size b) (hw0 : vp_in i Lx) (hw1 : vp_in (i + (1 : Int32)) Lx) (hw2 : vp_in (i + (2 : Int32)) Lx) (hw3 : vp_in (i + (3 : Int32)) Lx) (hw4 : vp_in (i + (4 : Int32)) Lx) (hw5 : vp_in (i + (5 : Int32)) Lx) (hRm : 40 ≤ R.frames ∧ 1640 ≤ R.locals) (hcl : cells + 16 ≤ R.cells ∧ slots + 96 ≤ R.slots) (hK : ∀ M', K M' → Wa p l e R s m args below meth c (cells + 16) (slots + 96) Q D tc ad 9 M' 3273 [(4, .int i), (3, .ref (ad 710)), (2, .ref (ad 699)), (1, .ref (ad 0)), (0, .ref b)] []) (M : TM) (h : f_law_12 xs i M K) : Wa p l e R s m args below meth c cells slots Q D tc ad 9 M 821 [(4, .int i), (3, .ref (ad 710)), (2, .ref (ad 699)), (1, .ref (ad 0)), (0, .ref b)] [] := by
  unfold f_law_12 at h
  refine ra_aload_n E dL_law_821 rfl 3 rfl ?_
  refine ra_callIV (rest := []) E (c_X12_bargeCount _ _ h) (lq_X12 _) cv_X12_bargeCount ml_L_207 (by decide) (lm (by decide)) (fun R => ⟨_, cel_0 tc ad R⟩) rfl rfl rfl (Nat.le_of_ble_eq_true rfl) ⟨by omega, by omega⟩ ⟨by omega, by omega⟩ dL_law_822 (fun r2 M1 h => ?_)
  refine ra_aload_n E dL_law_825 rfl 2 rfl ?_
  refine ra_callIV (rest := [_]) E (c_X13_bargeCount _ _ h) lq_13L cv_X13_bargeCount ml_L_210 (by decide) (lmL (k := 699) (by decide)) (fun R => ⟨_, cel_699 tc ad R⟩) rfl rfl rfl (Nat.le_of_ble_eq_true rfl) ⟨by omega, by omega⟩ ⟨by omega, by omega⟩ dL_law_826 (fun r4 M3 h => ?_)
  refine ra_icmp_eq (tgt := 3273) E dL_law_829 (by decide) (fun q5 => ?_) (fun q5 => ?_)
  · replace h := h.1 q5
    exact ra_sub (L' := [(4, _), (3, _), (2, _), (1, _), (0, _)]) [0, 1, 2, 3, 4] rfl (ra_widen (k := cells + 16) (n := slots + 96) (by omega) (by omega) (hK _ h))
  · replace h := h.2 q5
    refine ra_iconst E dL_law_832 ki_0 ?_
    exact h.elim
def f_law_13 (xs : Nat → Int32) (i : Int32) (M : TM) (K : TM → Prop) : Prop := f_L_placeOf (xs (i + (1 : Int32)).toNatClampNeg) M (fun r2 M1 => f_X13_placeOf (xs (i + (1 : Int32)).toNatClampNeg) M1 (fun r4 M3 => f_X13_thrown M3 (fun r6 M5 => ((r6 = r2 → ((¬ r2 = 0 → K M5) ∧ (r2 = 0 → (((lg_cmp (M5 710 0).toInt64 r4.toInt64) = 0 → K M5) ∧ (¬ (lg_cmp (M5 710 0).toInt64 r4.toInt64) = 0 → False))))) ∧ (¬ r6 = r2 → False)))))
set_option maxRecDepth 100000 in
set_option maxHeartbeats 4000000 in
theorem l_law_13 {p : Program} {l : Launch} {e : Env} {R : Room} {s : State} {m : MethodId} {args : Array Value} {below : List Frame} {meth : Method} {c : Code} {cells slots : Nat} {Q : State → Prop} {D : va_G} {tc : Nat → ClassId} {ad : Nat → Nat} {b Lx : Nat} {xs : Nat → Int32} {i : Int32} {K : TM → Prop} (E : Ev p s m args meth c D tc ad RL cL_law 9) (hfl : l.stackTraces = false) (hX : va_X b Lx xs s s.heap) (hbl : b < s.heap.size) (hbA : ¬ A0 ad s.heap.size b) (hw0 : vp_in i Lx) (hw1 : vp_in (i + (1 : Int32)) Lx) (hw2 : vp_in (i + (2 : Int32)) Lx) (hw3 : vp_in (i + (3 : Int32)) Lx) (hw4 : vp_in (i + (4 : Int32)) Lx) (hw5 : vp_in (i + (5 : Int32)) Lx) (hRm : 40 ≤ R.frames ∧ 1640 ≤ R.locals) (hcl : cells + 16 ≤ R.cells ∧ slots + 96 ≤ R.slots) (hK : ∀ M', K M' → Wa p l e R s m args below meth c (cells + 16) (slots + 96) Q D tc ad 9 M' 3273 [(4, .int i), (3, .ref (ad 710)), (2, .ref (ad 699)), (1, .ref (ad 0)), (0, .ref b)] []) (M : TM) (h : f_law_13 xs i M K) : Wa p l e R s m args below meth c cells slots Q D tc ad 9 M 834 [(4, .int i), (3, .ref (ad 710)), (2, .ref (ad 699)), (1, .ref (ad 0)), (0, .ref b)] [] := by
  unfold f_law_13 at h
  refine ra_aload_n E dL_law_834 rfl 3 rfl ?_
  refine ra_aload_n E dL_law_835 rfl 4 rfl ?_
  refine ra_iload E dL_law_836 0 rfl ?_
  refine ra_iconst E dL_law_838 ki_1 ?_
  refine ra_iadd E dL_law_839 ?_
  refine ra_sld E hX hbl hbA hw1 dL_law_840 ?_
  refine ra_aload_n E dL_law_841 rfl 1 rfl ?_
  refine rx_callW (rest := []) E hfl (c_L_placeOf _ _ _ h) lq_L ctw_L_placeOf ml_L_211 (by decide) rfl rfl (Nat.le_of_ble_eq_true rfl) ⟨by omega, by omega⟩ ⟨by omega, by omega⟩ dL_law_842 (fun r2 M1 h => ?_)
  refine ra_istore (L' := [(5, _), (4, _), (3, _), (2, _), (1, _), (0, _)]) E dL_law_845 (by decide) rfl ?_
  refine ra_aload_n E dL_law_847 rfl 3 rfl ?_
  refine ra_aload_n E dL_law_848 rfl 5 rfl ?_
  refine ra_iload E dL_law_849 1 rfl ?_
  refine ra_iconst E dL_law_851 ki_1 ?_
  refine ra_iadd E dL_law_852 ?_
  refine ra_sld E hX hbl hbA hw1 dL_law_853 ?_
  refine ra_callIV (rest := []) E (c_X13_placeOf _ _ _ h) lq_13L cv_X13_placeOf ml_L_213 (by decide) (lmL (k := 699) (by decide)) (fun R => ⟨_, cel_699 tc ad R⟩) rfl rfl rfl (Nat.le_of_ble_eq_true rfl) ⟨by omega, by omega⟩ ⟨by omega, by omega⟩ dL_law_854 (fun r4 M3 h => ?_)
  refine ra_istore (L' := [(6, _), (5, _), (4, _), (3, _), (2, _), (1, _), (0, _)]) E dL_law_857 (by decide) rfl ?_
  refine ra_aload_n E dL_law_859 rfl 4 rfl ?_
  refine ra_callIV (rest := []) E (c_X13_thrown _ _ h) lq_13L cv_X13_thrown ml_L_170 (by decide) (lmL (k := 699) (by decide)) (fun R => ⟨_, cel_699 tc ad R⟩) rfl rfl rfl (Nat.le_of_ble_eq_true rfl) ⟨by omega, by omega⟩ ⟨by omega, by omega⟩ dL_law_860 (fun r6 M5 h => ?_)
  refine ra_iload E dL_law_863 1 rfl ?_
  refine ra_icmp_eq (tgt := 870) E dL_law_865 (by decide) (fun q7 => ?_) (fun q7 => ?_)
  · replace h := h.1 q7
    refine ra_iload E dL_law_870 1 rfl ?_
    refine ra_if_ne (tgt := 887) E dL_law_872 (by decide) (fun q8 => ?_) (fun q8 => ?_)
    · replace h := h.1 q8
      refine ra_goto (tgt := 3273) E dL_law_887 (by decide) ?_
      exact ra_sub (L' := [(4, _), (3, _), (2, _), (1, _), (0, _)]) [2, 3, 4, 5, 6] rfl (ra_widen (k := cells + 16) (n := slots + 96) (by omega) (by omega) (hK _ h))
    · replace h := h.2 q8
      refine ra_aload_n E dL_law_875 rfl 3 rfl ?_
      refine ra_iconst E dL_law_876 ki_0 ?_
      refine ra_lald E (lmL (by decide)) rfl dL_law_877 ?_
      refine ra_iload E dL_law_878 0 rfl ?_
      refine ra_i2l E dL_law_880 rfl ?_
      refine ra_lcmp E dL_law_881 ?_
      refine ra_if_eq (tgt := 887) E dL_law_882 (by decide) (fun q9 => ?_) (fun q9 => ?_)
      · replace h := h.1 q9
        refine ra_goto (tgt := 3273) E dL_law_887 (by decide) ?_
        exact ra_sub (L' := [(4, _), (3, _), (2, _), (1, _), (0, _)]) [2, 3, 4, 5, 6] rfl (ra_widen (k := cells + 16) (n := slots + 96) (by omega) (by omega) (hK _ h))
      · replace h := h.2 q9
        refine ra_iconst E dL_law_885 ki_0 ?_
        exact h.elim
  · replace h := h.2 q7
    refine ra_iconst E dL_law_868 ki_0 ?_
    exact h.elim
def f_law_14 (xs : Nat → Int32) (i : Int32) (M : TM) (K : TM → Prop) : Prop := f_L_targetOf (xs (i + (1 : Int32)).toNatClampNeg) M (fun r2 M1 => f_X13_targetOf (xs (i + (1 : Int32)).toNatClampNeg) M1 (fun r4 M3 => f_X13_thrown M3 (fun r6 M5 => ((r6 = r2 → ((¬ r2 = 0 → K M5) ∧ (r2 = 0 → (((lg_cmp (M5 710 0).toInt64 r4.toInt64) = 0 → K M5) ∧ (¬ (lg_cmp (M5 710 0).toInt64 r4.toInt64) = 0 → False))))) ∧ (¬ r6 = r2 → False)))))
set_option maxRecDepth 100000 in
set_option maxHeartbeats 4000000 in
theorem l_law_14 {p : Program} {l : Launch} {e : Env} {R : Room} {s : State} {m : MethodId} {args : Array Value} {below : List Frame} {meth : Method} {c : Code} {cells slots : Nat} {Q : State → Prop} {D : va_G} {tc : Nat → ClassId} {ad : Nat → Nat} {b Lx : Nat} {xs : Nat → Int32} {i : Int32} {K : TM → Prop} (E : Ev p s m args meth c D tc ad RL cL_law 9) (hfl : l.stackTraces = false) (hX : va_X b Lx xs s s.heap) (hbl : b < s.heap.size) (hbA : ¬ A0 ad s.heap.size b) (hw0 : vp_in i Lx) (hw1 : vp_in (i + (1 : Int32)) Lx) (hw2 : vp_in (i + (2 : Int32)) Lx) (hw3 : vp_in (i + (3 : Int32)) Lx) (hw4 : vp_in (i + (4 : Int32)) Lx) (hw5 : vp_in (i + (5 : Int32)) Lx) (hRm : 40 ≤ R.frames ∧ 1640 ≤ R.locals) (hcl : cells + 16 ≤ R.cells ∧ slots + 96 ≤ R.slots) (hK : ∀ M', K M' → Wa p l e R s m args below meth c (cells + 16) (slots + 96) Q D tc ad 9 M' 3273 [(4, .int i), (3, .ref (ad 710)), (2, .ref (ad 699)), (1, .ref (ad 0)), (0, .ref b)] []) (M : TM) (h : f_law_14 xs i M K) : Wa p l e R s m args below meth c cells slots Q D tc ad 9 M 890 [(4, .int i), (3, .ref (ad 710)), (2, .ref (ad 699)), (1, .ref (ad 0)), (0, .ref b)] [] := by
  unfold f_law_14 at h
  refine ra_aload_n E dL_law_890 rfl 3 rfl ?_
  refine ra_aload_n E dL_law_891 rfl 4 rfl ?_
  refine ra_iload E dL_law_892 0 rfl ?_
  refine ra_iconst E dL_law_894 ki_1 ?_
  refine ra_iadd E dL_law_895 ?_
  refine ra_sld E hX hbl hbA hw1 dL_law_896 ?_
  refine ra_aload_n E dL_law_897 rfl 1 rfl ?_
  refine rx_callW (rest := []) E hfl (c_L_targetOf _ _ _ h) lq_L ctw_L_targetOf ml_L_214 (by decide) rfl rfl (Nat.le_of_ble_eq_true rfl) ⟨by omega, by omega⟩ ⟨by omega, by omega⟩ dL_law_898 (fun r2 M1 h => ?_)
  refine ra_istore (L' := [(5, _), (4, _), (3, _), (2, _), (1, _), (0, _)]) E dL_law_901 (by decide) rfl ?_
  refine ra_aload_n E dL_law_903 rfl 3 rfl ?_
  refine ra_aload_n E dL_law_904 rfl 5 rfl ?_
  refine ra_iload E dL_law_905 1 rfl ?_
  refine ra_iconst E dL_law_907 ki_1 ?_
  refine ra_iadd E dL_law_908 ?_
  refine ra_sld E hX hbl hbA hw1 dL_law_909 ?_
  refine ra_callIV (rest := []) E (c_X13_targetOf _ _ _ h) lq_13L cv_X13_targetOf ml_L_216 (by decide) (lmL (k := 699) (by decide)) (fun R => ⟨_, cel_699 tc ad R⟩) rfl rfl rfl (Nat.le_of_ble_eq_true rfl) ⟨by omega, by omega⟩ ⟨by omega, by omega⟩ dL_law_910 (fun r4 M3 h => ?_)
  refine ra_istore (L' := [(6, _), (5, _), (4, _), (3, _), (2, _), (1, _), (0, _)]) E dL_law_913 (by decide) rfl ?_
  refine ra_aload_n E dL_law_915 rfl 4 rfl ?_
  refine ra_callIV (rest := []) E (c_X13_thrown _ _ h) lq_13L cv_X13_thrown ml_L_170 (by decide) (lmL (k := 699) (by decide)) (fun R => ⟨_, cel_699 tc ad R⟩) rfl rfl rfl (Nat.le_of_ble_eq_true rfl) ⟨by omega, by omega⟩ ⟨by omega, by omega⟩ dL_law_916 (fun r6 M5 h => ?_)
  refine ra_iload E dL_law_919 1 rfl ?_
  refine ra_icmp_eq (tgt := 926) E dL_law_921 (by decide) (fun q7 => ?_) (fun q7 => ?_)
  · replace h := h.1 q7
    refine ra_iload E dL_law_926 1 rfl ?_
    refine ra_if_ne (tgt := 943) E dL_law_928 (by decide) (fun q8 => ?_) (fun q8 => ?_)
    · replace h := h.1 q8
      refine ra_goto (tgt := 3273) E dL_law_943 (by decide) ?_
      exact ra_sub (L' := [(4, _), (3, _), (2, _), (1, _), (0, _)]) [2, 3, 4, 5, 6] rfl (ra_widen (k := cells + 16) (n := slots + 96) (by omega) (by omega) (hK _ h))
    · replace h := h.2 q8
      refine ra_aload_n E dL_law_931 rfl 3 rfl ?_
      refine ra_iconst E dL_law_932 ki_0 ?_
      refine ra_lald E (lmL (by decide)) rfl dL_law_933 ?_
      refine ra_iload E dL_law_934 0 rfl ?_
      refine ra_i2l E dL_law_936 rfl ?_
      refine ra_lcmp E dL_law_937 ?_
      refine ra_if_eq (tgt := 943) E dL_law_938 (by decide) (fun q9 => ?_) (fun q9 => ?_)
      · replace h := h.1 q9
        refine ra_goto (tgt := 3273) E dL_law_943 (by decide) ?_
        exact ra_sub (L' := [(4, _), (3, _), (2, _), (1, _), (0, _)]) [2, 3, 4, 5, 6] rfl (ra_widen (k := cells + 16) (n := slots + 96) (by omega) (by omega) (hK _ h))
      · replace h := h.2 q9
        refine ra_iconst E dL_law_941 ki_0 ?_
        exact h.elim
  · replace h := h.2 q7
    refine ra_iconst E dL_law_924 ki_0 ?_
    exact h.elim
def f_law_15 (xs : Nat → Int32) (i : Int32) (M : TM) (K : TM → Prop) : Prop := f_L_heightOf (xs (i + (1 : Int32)).toNatClampNeg) M (fun r2 M1 => f_X13_heightOf (xs (i + (1 : Int32)).toNatClampNeg) M1 (fun r4 M3 => f_X13_thrown M3 (fun r6 M5 => ((r6 = r2 → ((¬ r2 = 0 → K M5) ∧ (r2 = 0 → (((lg_cmp (M5 710 0).toInt64 r4.toInt64) = 0 → K M5) ∧ (¬ (lg_cmp (M5 710 0).toInt64 r4.toInt64) = 0 → False))))) ∧ (¬ r6 = r2 → False)))))
set_option maxRecDepth 100000 in
set_option maxHeartbeats 4000000 in
theorem l_law_15 {p : Program} {l : Launch} {e : Env} {R : Room} {s : State} {m : MethodId} {args : Array Value} {below : List Frame} {meth : Method} {c : Code} {cells slots : Nat} {Q : State → Prop} {D : va_G} {tc : Nat → ClassId} {ad : Nat → Nat} {b Lx : Nat} {xs : Nat → Int32} {i : Int32} {K : TM → Prop} (E : Ev p s m args meth c D tc ad RL cL_law 9) (hfl : l.stackTraces = false) (hX : va_X b Lx xs s s.heap) (hbl : b < s.heap.size) (hbA : ¬ A0 ad s.heap.size b) (hw0 : vp_in i Lx) (hw1 : vp_in (i + (1 : Int32)) Lx) (hw2 : vp_in (i + (2 : Int32)) Lx) (hw3 : vp_in (i + (3 : Int32)) Lx) (hw4 : vp_in (i + (4 : Int32)) Lx) (hw5 : vp_in (i + (5 : Int32)) Lx) (hRm : 40 ≤ R.frames ∧ 1640 ≤ R.locals) (hcl : cells + 16 ≤ R.cells ∧ slots + 96 ≤ R.slots) (hK : ∀ M', K M' → Wa p l e R s m args below meth c (cells + 16) (slots + 96) Q D tc ad 9 M' 3273 [(4, .int i), (3, .ref (ad 710)), (2, .ref (ad 699)), (1, .ref (ad 0)), (0, .ref b)] []) (M : TM) (h : f_law_15 xs i M K) : Wa p l e R s m args below meth c cells slots Q D tc ad 9 M 946 [(4, .int i), (3, .ref (ad 710)), (2, .ref (ad 699)), (1, .ref (ad 0)), (0, .ref b)] [] := by
  unfold f_law_15 at h
  refine ra_aload_n E dL_law_946 rfl 3 rfl ?_
  refine ra_aload_n E dL_law_947 rfl 4 rfl ?_
  refine ra_iload E dL_law_948 0 rfl ?_
  refine ra_iconst E dL_law_950 ki_1 ?_
  refine ra_iadd E dL_law_951 ?_
  refine ra_sld E hX hbl hbA hw1 dL_law_952 ?_
  refine ra_aload_n E dL_law_953 rfl 1 rfl ?_
  refine rx_callW (rest := []) E hfl (c_L_heightOf _ _ _ h) lq_L ctw_L_heightOf ml_L_217 (by decide) rfl rfl (Nat.le_of_ble_eq_true rfl) ⟨by omega, by omega⟩ ⟨by omega, by omega⟩ dL_law_954 (fun r2 M1 h => ?_)
  refine ra_istore (L' := [(5, _), (4, _), (3, _), (2, _), (1, _), (0, _)]) E dL_law_957 (by decide) rfl ?_
  refine ra_aload_n E dL_law_959 rfl 3 rfl ?_
  refine ra_aload_n E dL_law_960 rfl 5 rfl ?_
  refine ra_iload E dL_law_961 1 rfl ?_
  refine ra_iconst E dL_law_963 ki_1 ?_
  refine ra_iadd E dL_law_964 ?_
  refine ra_sld E hX hbl hbA hw1 dL_law_965 ?_
  refine ra_callIV (rest := []) E (c_X13_heightOf _ _ _ h) lq_13L cv_X13_heightOf ml_L_219 (by decide) (lmL (k := 699) (by decide)) (fun R => ⟨_, cel_699 tc ad R⟩) rfl rfl rfl (Nat.le_of_ble_eq_true rfl) ⟨by omega, by omega⟩ ⟨by omega, by omega⟩ dL_law_966 (fun r4 M3 h => ?_)
  refine ra_istore (L' := [(6, _), (5, _), (4, _), (3, _), (2, _), (1, _), (0, _)]) E dL_law_969 (by decide) rfl ?_
  refine ra_aload_n E dL_law_971 rfl 4 rfl ?_
  refine ra_callIV (rest := []) E (c_X13_thrown _ _ h) lq_13L cv_X13_thrown ml_L_170 (by decide) (lmL (k := 699) (by decide)) (fun R => ⟨_, cel_699 tc ad R⟩) rfl rfl rfl (Nat.le_of_ble_eq_true rfl) ⟨by omega, by omega⟩ ⟨by omega, by omega⟩ dL_law_972 (fun r6 M5 h => ?_)
  refine ra_iload E dL_law_975 1 rfl ?_
  refine ra_icmp_eq (tgt := 982) E dL_law_977 (by decide) (fun q7 => ?_) (fun q7 => ?_)
  · replace h := h.1 q7
    refine ra_iload E dL_law_982 1 rfl ?_
    refine ra_if_ne (tgt := 999) E dL_law_984 (by decide) (fun q8 => ?_) (fun q8 => ?_)
    · replace h := h.1 q8
      refine ra_goto (tgt := 3273) E dL_law_999 (by decide) ?_
      exact ra_sub (L' := [(4, _), (3, _), (2, _), (1, _), (0, _)]) [2, 3, 4, 5, 6] rfl (ra_widen (k := cells + 16) (n := slots + 96) (by omega) (by omega) (hK _ h))
    · replace h := h.2 q8
      refine ra_aload_n E dL_law_987 rfl 3 rfl ?_
      refine ra_iconst E dL_law_988 ki_0 ?_
      refine ra_lald E (lmL (by decide)) rfl dL_law_989 ?_
      refine ra_iload E dL_law_990 0 rfl ?_
      refine ra_i2l E dL_law_992 rfl ?_
      refine ra_lcmp E dL_law_993 ?_
      refine ra_if_eq (tgt := 999) E dL_law_994 (by decide) (fun q9 => ?_) (fun q9 => ?_)
      · replace h := h.1 q9
        refine ra_goto (tgt := 3273) E dL_law_999 (by decide) ?_
        exact ra_sub (L' := [(4, _), (3, _), (2, _), (1, _), (0, _)]) [2, 3, 4, 5, 6] rfl (ra_widen (k := cells + 16) (n := slots + 96) (by omega) (by omega) (hK _ h))
      · replace h := h.2 q9
        refine ra_iconst E dL_law_997 ki_0 ?_
        exact h.elim
  · replace h := h.2 q7
    refine ra_iconst E dL_law_980 ki_0 ?_
    exact h.elim
def f_law_16 (xs : Nat → Int32) (i : Int32) (M : TM) (K : TM → Prop) : Prop := f_L_timeInLock (xs (i + (1 : Int32)).toNatClampNeg) M (fun r2 M1 => f_X13_timeInLock (xs (i + (1 : Int32)).toNatClampNeg) M1 (fun r4 M3 => f_X13_thrown M3 (fun r6 M5 => ((r6 = r2 → ((¬ r2 = 0 → K M5) ∧ (r2 = 0 → (((lg_cmp (M5 710 0).toInt64 r4.toInt64) = 0 → K M5) ∧ (¬ (lg_cmp (M5 710 0).toInt64 r4.toInt64) = 0 → False))))) ∧ (¬ r6 = r2 → False)))))
set_option maxRecDepth 100000 in
set_option maxHeartbeats 4000000 in
theorem l_law_16 {p : Program} {l : Launch} {e : Env} {R : Room} {s : State} {m : MethodId} {args : Array Value} {below : List Frame} {meth : Method} {c : Code} {cells slots : Nat} {Q : State → Prop} {D : va_G} {tc : Nat → ClassId} {ad : Nat → Nat} {b Lx : Nat} {xs : Nat → Int32} {i : Int32} {K : TM → Prop} (E : Ev p s m args meth c D tc ad RL cL_law 9) (hfl : l.stackTraces = false) (hX : va_X b Lx xs s s.heap) (hbl : b < s.heap.size) (hbA : ¬ A0 ad s.heap.size b) (hw0 : vp_in i Lx) (hw1 : vp_in (i + (1 : Int32)) Lx) (hw2 : vp_in (i + (2 : Int32)) Lx) (hw3 : vp_in (i + (3 : Int32)) Lx) (hw4 : vp_in (i + (4 : Int32)) Lx) (hw5 : vp_in (i + (5 : Int32)) Lx) (hRm : 40 ≤ R.frames ∧ 1640 ≤ R.locals) (hcl : cells + 16 ≤ R.cells ∧ slots + 96 ≤ R.slots) (hK : ∀ M', K M' → Wa p l e R s m args below meth c (cells + 16) (slots + 96) Q D tc ad 9 M' 3273 [(4, .int i), (3, .ref (ad 710)), (2, .ref (ad 699)), (1, .ref (ad 0)), (0, .ref b)] []) (M : TM) (h : f_law_16 xs i M K) : Wa p l e R s m args below meth c cells slots Q D tc ad 9 M 1002 [(4, .int i), (3, .ref (ad 710)), (2, .ref (ad 699)), (1, .ref (ad 0)), (0, .ref b)] [] := by
  unfold f_law_16 at h
  refine ra_aload_n E dL_law_1002 rfl 3 rfl ?_
  refine ra_aload_n E dL_law_1003 rfl 4 rfl ?_
  refine ra_iload E dL_law_1004 0 rfl ?_
  refine ra_iconst E dL_law_1006 ki_1 ?_
  refine ra_iadd E dL_law_1007 ?_
  refine ra_sld E hX hbl hbA hw1 dL_law_1008 ?_
  refine ra_aload_n E dL_law_1009 rfl 1 rfl ?_
  refine rx_callW (rest := []) E hfl (c_L_timeInLock _ _ _ h) lq_L ctw_L_timeInLock ml_L_220 (by decide) rfl rfl (Nat.le_of_ble_eq_true rfl) ⟨by omega, by omega⟩ ⟨by omega, by omega⟩ dL_law_1010 (fun r2 M1 h => ?_)
  refine ra_istore (L' := [(5, _), (4, _), (3, _), (2, _), (1, _), (0, _)]) E dL_law_1013 (by decide) rfl ?_
  refine ra_aload_n E dL_law_1015 rfl 3 rfl ?_
  refine ra_aload_n E dL_law_1016 rfl 5 rfl ?_
  refine ra_iload E dL_law_1017 1 rfl ?_
  refine ra_iconst E dL_law_1019 ki_1 ?_
  refine ra_iadd E dL_law_1020 ?_
  refine ra_sld E hX hbl hbA hw1 dL_law_1021 ?_
  refine ra_callIV (rest := []) E (c_X13_timeInLock _ _ _ h) lq_13L cv_X13_timeInLock ml_L_222 (by decide) (lmL (k := 699) (by decide)) (fun R => ⟨_, cel_699 tc ad R⟩) rfl rfl rfl (Nat.le_of_ble_eq_true rfl) ⟨by omega, by omega⟩ ⟨by omega, by omega⟩ dL_law_1022 (fun r4 M3 h => ?_)
  refine ra_istore (L' := [(6, _), (5, _), (4, _), (3, _), (2, _), (1, _), (0, _)]) E dL_law_1025 (by decide) rfl ?_
  refine ra_aload_n E dL_law_1027 rfl 4 rfl ?_
  refine ra_callIV (rest := []) E (c_X13_thrown _ _ h) lq_13L cv_X13_thrown ml_L_170 (by decide) (lmL (k := 699) (by decide)) (fun R => ⟨_, cel_699 tc ad R⟩) rfl rfl rfl (Nat.le_of_ble_eq_true rfl) ⟨by omega, by omega⟩ ⟨by omega, by omega⟩ dL_law_1028 (fun r6 M5 h => ?_)
  refine ra_iload E dL_law_1031 1 rfl ?_
  refine ra_icmp_eq (tgt := 1038) E dL_law_1033 (by decide) (fun q7 => ?_) (fun q7 => ?_)
  · replace h := h.1 q7
    refine ra_iload E dL_law_1038 1 rfl ?_
    refine ra_if_ne (tgt := 1055) E dL_law_1040 (by decide) (fun q8 => ?_) (fun q8 => ?_)
    · replace h := h.1 q8
      refine ra_goto (tgt := 3273) E dL_law_1055 (by decide) ?_
      exact ra_sub (L' := [(4, _), (3, _), (2, _), (1, _), (0, _)]) [2, 3, 4, 5, 6] rfl (ra_widen (k := cells + 16) (n := slots + 96) (by omega) (by omega) (hK _ h))
    · replace h := h.2 q8
      refine ra_aload_n E dL_law_1043 rfl 3 rfl ?_
      refine ra_iconst E dL_law_1044 ki_0 ?_
      refine ra_lald E (lmL (by decide)) rfl dL_law_1045 ?_
      refine ra_iload E dL_law_1046 0 rfl ?_
      refine ra_i2l E dL_law_1048 rfl ?_
      refine ra_lcmp E dL_law_1049 ?_
      refine ra_if_eq (tgt := 1055) E dL_law_1050 (by decide) (fun q9 => ?_) (fun q9 => ?_)
      · replace h := h.1 q9
        refine ra_goto (tgt := 3273) E dL_law_1055 (by decide) ?_
        exact ra_sub (L' := [(4, _), (3, _), (2, _), (1, _), (0, _)]) [2, 3, 4, 5, 6] rfl (ra_widen (k := cells + 16) (n := slots + 96) (by omega) (by omega) (hK _ h))
      · replace h := h.2 q9
        refine ra_iconst E dL_law_1053 ki_0 ?_
        exact h.elim
  · replace h := h.2 q7
    refine ra_iconst E dL_law_1036 ki_0 ?_
    exact h.elim
def f_law_17 (xs : Nat → Int32) (i : Int32) (M : TM) (K : TM → Prop) : Prop := f_L_flour (xs (i + (1 : Int32)).toNatClampNeg) M (fun r2 M1 => f_X13_flour (xs (i + (1 : Int32)).toNatClampNeg) M1 (fun r4 M3 => f_X13_thrown M3 (fun r6 M5 => ((r6 = r2 → ((¬ r2 = 0 → K M5) ∧ (r2 = 0 → (((lg_cmp (M5 710 0).toInt64 r4.toInt64) = 0 → K M5) ∧ (¬ (lg_cmp (M5 710 0).toInt64 r4.toInt64) = 0 → False))))) ∧ (¬ r6 = r2 → False)))))
set_option maxRecDepth 100000 in
set_option maxHeartbeats 4000000 in
theorem l_law_17 {p : Program} {l : Launch} {e : Env} {R : Room} {s : State} {m : MethodId} {args : Array Value} {below : List Frame} {meth : Method} {c : Code} {cells slots : Nat} {Q : State → Prop} {D : va_G} {tc : Nat → ClassId} {ad : Nat → Nat} {b Lx : Nat} {xs : Nat → Int32} {i : Int32} {K : TM → Prop} (E : Ev p s m args meth c D tc ad RL cL_law 9) (hfl : l.stackTraces = false) (hX : va_X b Lx xs s s.heap) (hbl : b < s.heap.size) (hbA : ¬ A0 ad s.heap.size b) (hw0 : vp_in i Lx) (hw1 : vp_in (i + (1 : Int32)) Lx) (hw2 : vp_in (i + (2 : Int32)) Lx) (hw3 : vp_in (i + (3 : Int32)) Lx) (hw4 : vp_in (i + (4 : Int32)) Lx) (hw5 : vp_in (i + (5 : Int32)) Lx) (hRm : 40 ≤ R.frames ∧ 1640 ≤ R.locals) (hcl : cells + 16 ≤ R.cells ∧ slots + 96 ≤ R.slots) (hK : ∀ M', K M' → Wa p l e R s m args below meth c (cells + 16) (slots + 96) Q D tc ad 9 M' 3273 [(4, .int i), (3, .ref (ad 710)), (2, .ref (ad 699)), (1, .ref (ad 0)), (0, .ref b)] []) (M : TM) (h : f_law_17 xs i M K) : Wa p l e R s m args below meth c cells slots Q D tc ad 9 M 1058 [(4, .int i), (3, .ref (ad 710)), (2, .ref (ad 699)), (1, .ref (ad 0)), (0, .ref b)] [] := by
  unfold f_law_17 at h
  refine ra_aload_n E dL_law_1058 rfl 3 rfl ?_
  refine ra_aload_n E dL_law_1059 rfl 4 rfl ?_
  refine ra_iload E dL_law_1060 0 rfl ?_
  refine ra_iconst E dL_law_1062 ki_1 ?_
  refine ra_iadd E dL_law_1063 ?_
  refine ra_sld E hX hbl hbA hw1 dL_law_1064 ?_
  refine ra_aload_n E dL_law_1065 rfl 1 rfl ?_
  refine rx_callW (rest := []) E hfl (c_L_flour _ _ _ h) lq_L ctw_L_flour ml_L_223 (by decide) rfl rfl (Nat.le_of_ble_eq_true rfl) ⟨by omega, by omega⟩ ⟨by omega, by omega⟩ dL_law_1066 (fun r2 M1 h => ?_)
  refine ra_istore (L' := [(5, _), (4, _), (3, _), (2, _), (1, _), (0, _)]) E dL_law_1069 (by decide) rfl ?_
  refine ra_aload_n E dL_law_1071 rfl 3 rfl ?_
  refine ra_aload_n E dL_law_1072 rfl 5 rfl ?_
  refine ra_iload E dL_law_1073 1 rfl ?_
  refine ra_iconst E dL_law_1075 ki_1 ?_
  refine ra_iadd E dL_law_1076 ?_
  refine ra_sld E hX hbl hbA hw1 dL_law_1077 ?_
  refine ra_callIV (rest := []) E (c_X13_flour _ _ _ h) lq_13L cv_X13_flour ml_L_225 (by decide) (lmL (k := 699) (by decide)) (fun R => ⟨_, cel_699 tc ad R⟩) rfl rfl rfl (Nat.le_of_ble_eq_true rfl) ⟨by omega, by omega⟩ ⟨by omega, by omega⟩ dL_law_1078 (fun r4 M3 h => ?_)
  refine ra_istore (L' := [(6, _), (5, _), (4, _), (3, _), (2, _), (1, _), (0, _)]) E dL_law_1081 (by decide) rfl ?_
  refine ra_aload_n E dL_law_1083 rfl 4 rfl ?_
  refine ra_callIV (rest := []) E (c_X13_thrown _ _ h) lq_13L cv_X13_thrown ml_L_170 (by decide) (lmL (k := 699) (by decide)) (fun R => ⟨_, cel_699 tc ad R⟩) rfl rfl rfl (Nat.le_of_ble_eq_true rfl) ⟨by omega, by omega⟩ ⟨by omega, by omega⟩ dL_law_1084 (fun r6 M5 h => ?_)
  refine ra_iload E dL_law_1087 1 rfl ?_
  refine ra_icmp_eq (tgt := 1094) E dL_law_1089 (by decide) (fun q7 => ?_) (fun q7 => ?_)
  · replace h := h.1 q7
    refine ra_iload E dL_law_1094 1 rfl ?_
    refine ra_if_ne (tgt := 1111) E dL_law_1096 (by decide) (fun q8 => ?_) (fun q8 => ?_)
    · replace h := h.1 q8
      refine ra_goto (tgt := 3273) E dL_law_1111 (by decide) ?_
      exact ra_sub (L' := [(4, _), (3, _), (2, _), (1, _), (0, _)]) [2, 3, 4, 5, 6] rfl (ra_widen (k := cells + 16) (n := slots + 96) (by omega) (by omega) (hK _ h))
    · replace h := h.2 q8
      refine ra_aload_n E dL_law_1099 rfl 3 rfl ?_
      refine ra_iconst E dL_law_1100 ki_0 ?_
      refine ra_lald E (lmL (by decide)) rfl dL_law_1101 ?_
      refine ra_iload E dL_law_1102 0 rfl ?_
      refine ra_i2l E dL_law_1104 rfl ?_
      refine ra_lcmp E dL_law_1105 ?_
      refine ra_if_eq (tgt := 1111) E dL_law_1106 (by decide) (fun q9 => ?_) (fun q9 => ?_)
      · replace h := h.1 q9
        refine ra_goto (tgt := 3273) E dL_law_1111 (by decide) ?_
        exact ra_sub (L' := [(4, _), (3, _), (2, _), (1, _), (0, _)]) [2, 3, 4, 5, 6] rfl (ra_widen (k := cells + 16) (n := slots + 96) (by omega) (by omega) (hK _ h))
      · replace h := h.2 q9
        refine ra_iconst E dL_law_1109 ki_0 ?_
        exact h.elim
  · replace h := h.2 q7
    refine ra_iconst E dL_law_1092 ki_0 ?_
    exact h.elim
def f_law_18 (xs : Nat → Int32) (i : Int32) (M : TM) (K : TM → Prop) : Prop := f_L_cleanPairs (xs (i + (1 : Int32)).toNatClampNeg) M (fun r2 M1 => f_X13_cleanPairs (xs (i + (1 : Int32)).toNatClampNeg) M1 (fun r4 M3 => f_X13_thrown M3 (fun r6 M5 => ((r6 = r2 → ((¬ r2 = 0 → K M5) ∧ (r2 = 0 → (((lg_cmp (M5 710 0).toInt64 r4.toInt64) = 0 → K M5) ∧ (¬ (lg_cmp (M5 710 0).toInt64 r4.toInt64) = 0 → False))))) ∧ (¬ r6 = r2 → False)))))
set_option maxRecDepth 100000 in
set_option maxHeartbeats 4000000 in
theorem l_law_18 {p : Program} {l : Launch} {e : Env} {R : Room} {s : State} {m : MethodId} {args : Array Value} {below : List Frame} {meth : Method} {c : Code} {cells slots : Nat} {Q : State → Prop} {D : va_G} {tc : Nat → ClassId} {ad : Nat → Nat} {b Lx : Nat} {xs : Nat → Int32} {i : Int32} {K : TM → Prop} (E : Ev p s m args meth c D tc ad RL cL_law 9) (hfl : l.stackTraces = false) (hX : va_X b Lx xs s s.heap) (hbl : b < s.heap.size) (hbA : ¬ A0 ad s.heap.size b) (hw0 : vp_in i Lx) (hw1 : vp_in (i + (1 : Int32)) Lx) (hw2 : vp_in (i + (2 : Int32)) Lx) (hw3 : vp_in (i + (3 : Int32)) Lx) (hw4 : vp_in (i + (4 : Int32)) Lx) (hw5 : vp_in (i + (5 : Int32)) Lx) (hRm : 40 ≤ R.frames ∧ 1640 ≤ R.locals) (hcl : cells + 16 ≤ R.cells ∧ slots + 96 ≤ R.slots) (hK : ∀ M', K M' → Wa p l e R s m args below meth c (cells + 16) (slots + 96) Q D tc ad 9 M' 3273 [(4, .int i), (3, .ref (ad 710)), (2, .ref (ad 699)), (1, .ref (ad 0)), (0, .ref b)] []) (M : TM) (h : f_law_18 xs i M K) : Wa p l e R s m args below meth c cells slots Q D tc ad 9 M 1114 [(4, .int i), (3, .ref (ad 710)), (2, .ref (ad 699)), (1, .ref (ad 0)), (0, .ref b)] [] := by
  unfold f_law_18 at h
  refine ra_aload_n E dL_law_1114 rfl 3 rfl ?_
  refine ra_aload_n E dL_law_1115 rfl 4 rfl ?_
  refine ra_iload E dL_law_1116 0 rfl ?_
  refine ra_iconst E dL_law_1118 ki_1 ?_
  refine ra_iadd E dL_law_1119 ?_
  refine ra_sld E hX hbl hbA hw1 dL_law_1120 ?_
  refine ra_aload_n E dL_law_1121 rfl 1 rfl ?_
  refine rx_callW (rest := []) E hfl (c_L_cleanPairs _ _ _ h) lq_L ctw_L_cleanPairs ml_L_226 (by decide) rfl rfl (Nat.le_of_ble_eq_true rfl) ⟨by omega, by omega⟩ ⟨by omega, by omega⟩ dL_law_1122 (fun r2 M1 h => ?_)
  refine ra_istore (L' := [(5, _), (4, _), (3, _), (2, _), (1, _), (0, _)]) E dL_law_1125 (by decide) rfl ?_
  refine ra_aload_n E dL_law_1127 rfl 3 rfl ?_
  refine ra_aload_n E dL_law_1128 rfl 5 rfl ?_
  refine ra_iload E dL_law_1129 1 rfl ?_
  refine ra_iconst E dL_law_1131 ki_1 ?_
  refine ra_iadd E dL_law_1132 ?_
  refine ra_sld E hX hbl hbA hw1 dL_law_1133 ?_
  refine ra_callIV (rest := []) E (c_X13_cleanPairs _ _ _ h) lq_13L cv_X13_cleanPairs ml_L_228 (by decide) (lmL (k := 699) (by decide)) (fun R => ⟨_, cel_699 tc ad R⟩) rfl rfl rfl (Nat.le_of_ble_eq_true rfl) ⟨by omega, by omega⟩ ⟨by omega, by omega⟩ dL_law_1134 (fun r4 M3 h => ?_)
  refine ra_istore (L' := [(6, _), (5, _), (4, _), (3, _), (2, _), (1, _), (0, _)]) E dL_law_1137 (by decide) rfl ?_
  refine ra_aload_n E dL_law_1139 rfl 4 rfl ?_
  refine ra_callIV (rest := []) E (c_X13_thrown _ _ h) lq_13L cv_X13_thrown ml_L_170 (by decide) (lmL (k := 699) (by decide)) (fun R => ⟨_, cel_699 tc ad R⟩) rfl rfl rfl (Nat.le_of_ble_eq_true rfl) ⟨by omega, by omega⟩ ⟨by omega, by omega⟩ dL_law_1140 (fun r6 M5 h => ?_)
  refine ra_iload E dL_law_1143 1 rfl ?_
  refine ra_icmp_eq (tgt := 1150) E dL_law_1145 (by decide) (fun q7 => ?_) (fun q7 => ?_)
  · replace h := h.1 q7
    refine ra_iload E dL_law_1150 1 rfl ?_
    refine ra_if_ne (tgt := 1167) E dL_law_1152 (by decide) (fun q8 => ?_) (fun q8 => ?_)
    · replace h := h.1 q8
      refine ra_goto (tgt := 3273) E dL_law_1167 (by decide) ?_
      exact ra_sub (L' := [(4, _), (3, _), (2, _), (1, _), (0, _)]) [2, 3, 4, 5, 6] rfl (ra_widen (k := cells + 16) (n := slots + 96) (by omega) (by omega) (hK _ h))
    · replace h := h.2 q8
      refine ra_aload_n E dL_law_1155 rfl 3 rfl ?_
      refine ra_iconst E dL_law_1156 ki_0 ?_
      refine ra_lald E (lmL (by decide)) rfl dL_law_1157 ?_
      refine ra_iload E dL_law_1158 0 rfl ?_
      refine ra_i2l E dL_law_1160 rfl ?_
      refine ra_lcmp E dL_law_1161 ?_
      refine ra_if_eq (tgt := 1167) E dL_law_1162 (by decide) (fun q9 => ?_) (fun q9 => ?_)
      · replace h := h.1 q9
        refine ra_goto (tgt := 3273) E dL_law_1167 (by decide) ?_
        exact ra_sub (L' := [(4, _), (3, _), (2, _), (1, _), (0, _)]) [2, 3, 4, 5, 6] rfl (ra_widen (k := cells + 16) (n := slots + 96) (by omega) (by omega) (hK _ h))
      · replace h := h.2 q9
        refine ra_iconst E dL_law_1165 ki_0 ?_
        exact h.elim
  · replace h := h.2 q7
    refine ra_iconst E dL_law_1148 ki_0 ?_
    exact h.elim
def f_law_19 (xs : Nat → Int32) (i : Int32) (M : TM) (K : TM → Prop) : Prop := f_L_dirtyPairs (xs (i + (1 : Int32)).toNatClampNeg) M (fun r2 M1 => f_X13_dirtyPairs (xs (i + (1 : Int32)).toNatClampNeg) M1 (fun r4 M3 => f_X13_thrown M3 (fun r6 M5 => ((r6 = r2 → ((¬ r2 = 0 → K M5) ∧ (r2 = 0 → (((lg_cmp (M5 710 0).toInt64 r4.toInt64) = 0 → K M5) ∧ (¬ (lg_cmp (M5 710 0).toInt64 r4.toInt64) = 0 → False))))) ∧ (¬ r6 = r2 → False)))))
set_option maxRecDepth 100000 in
set_option maxHeartbeats 4000000 in
theorem l_law_19 {p : Program} {l : Launch} {e : Env} {R : Room} {s : State} {m : MethodId} {args : Array Value} {below : List Frame} {meth : Method} {c : Code} {cells slots : Nat} {Q : State → Prop} {D : va_G} {tc : Nat → ClassId} {ad : Nat → Nat} {b Lx : Nat} {xs : Nat → Int32} {i : Int32} {K : TM → Prop} (E : Ev p s m args meth c D tc ad RL cL_law 9) (hfl : l.stackTraces = false) (hX : va_X b Lx xs s s.heap) (hbl : b < s.heap.size) (hbA : ¬ A0 ad s.heap.size b) (hw0 : vp_in i Lx) (hw1 : vp_in (i + (1 : Int32)) Lx) (hw2 : vp_in (i + (2 : Int32)) Lx) (hw3 : vp_in (i + (3 : Int32)) Lx) (hw4 : vp_in (i + (4 : Int32)) Lx) (hw5 : vp_in (i + (5 : Int32)) Lx) (hRm : 40 ≤ R.frames ∧ 1640 ≤ R.locals) (hcl : cells + 16 ≤ R.cells ∧ slots + 96 ≤ R.slots) (hK : ∀ M', K M' → Wa p l e R s m args below meth c (cells + 16) (slots + 96) Q D tc ad 9 M' 3273 [(4, .int i), (3, .ref (ad 710)), (2, .ref (ad 699)), (1, .ref (ad 0)), (0, .ref b)] []) (M : TM) (h : f_law_19 xs i M K) : Wa p l e R s m args below meth c cells slots Q D tc ad 9 M 1170 [(4, .int i), (3, .ref (ad 710)), (2, .ref (ad 699)), (1, .ref (ad 0)), (0, .ref b)] [] := by
  unfold f_law_19 at h
  refine ra_aload_n E dL_law_1170 rfl 3 rfl ?_
  refine ra_aload_n E dL_law_1171 rfl 4 rfl ?_
  refine ra_iload E dL_law_1172 0 rfl ?_
  refine ra_iconst E dL_law_1174 ki_1 ?_
  refine ra_iadd E dL_law_1175 ?_
  refine ra_sld E hX hbl hbA hw1 dL_law_1176 ?_
  refine ra_aload_n E dL_law_1177 rfl 1 rfl ?_
  refine rx_callW (rest := []) E hfl (c_L_dirtyPairs _ _ _ h) lq_L ctw_L_dirtyPairs ml_L_229 (by decide) rfl rfl (Nat.le_of_ble_eq_true rfl) ⟨by omega, by omega⟩ ⟨by omega, by omega⟩ dL_law_1178 (fun r2 M1 h => ?_)
  refine ra_istore (L' := [(5, _), (4, _), (3, _), (2, _), (1, _), (0, _)]) E dL_law_1181 (by decide) rfl ?_
  refine ra_aload_n E dL_law_1183 rfl 3 rfl ?_
  refine ra_aload_n E dL_law_1184 rfl 5 rfl ?_
  refine ra_iload E dL_law_1185 1 rfl ?_
  refine ra_iconst E dL_law_1187 ki_1 ?_
  refine ra_iadd E dL_law_1188 ?_
  refine ra_sld E hX hbl hbA hw1 dL_law_1189 ?_
  refine ra_callIV (rest := []) E (c_X13_dirtyPairs _ _ _ h) lq_13L cv_X13_dirtyPairs ml_L_231 (by decide) (lmL (k := 699) (by decide)) (fun R => ⟨_, cel_699 tc ad R⟩) rfl rfl rfl (Nat.le_of_ble_eq_true rfl) ⟨by omega, by omega⟩ ⟨by omega, by omega⟩ dL_law_1190 (fun r4 M3 h => ?_)
  refine ra_istore (L' := [(6, _), (5, _), (4, _), (3, _), (2, _), (1, _), (0, _)]) E dL_law_1193 (by decide) rfl ?_
  refine ra_aload_n E dL_law_1195 rfl 4 rfl ?_
  refine ra_callIV (rest := []) E (c_X13_thrown _ _ h) lq_13L cv_X13_thrown ml_L_170 (by decide) (lmL (k := 699) (by decide)) (fun R => ⟨_, cel_699 tc ad R⟩) rfl rfl rfl (Nat.le_of_ble_eq_true rfl) ⟨by omega, by omega⟩ ⟨by omega, by omega⟩ dL_law_1196 (fun r6 M5 h => ?_)
  refine ra_iload E dL_law_1199 1 rfl ?_
  refine ra_icmp_eq (tgt := 1206) E dL_law_1201 (by decide) (fun q7 => ?_) (fun q7 => ?_)
  · replace h := h.1 q7
    refine ra_iload E dL_law_1206 1 rfl ?_
    refine ra_if_ne (tgt := 1223) E dL_law_1208 (by decide) (fun q8 => ?_) (fun q8 => ?_)
    · replace h := h.1 q8
      refine ra_goto (tgt := 3273) E dL_law_1223 (by decide) ?_
      exact ra_sub (L' := [(4, _), (3, _), (2, _), (1, _), (0, _)]) [2, 3, 4, 5, 6] rfl (ra_widen (k := cells + 16) (n := slots + 96) (by omega) (by omega) (hK _ h))
    · replace h := h.2 q8
      refine ra_aload_n E dL_law_1211 rfl 3 rfl ?_
      refine ra_iconst E dL_law_1212 ki_0 ?_
      refine ra_lald E (lmL (by decide)) rfl dL_law_1213 ?_
      refine ra_iload E dL_law_1214 0 rfl ?_
      refine ra_i2l E dL_law_1216 rfl ?_
      refine ra_lcmp E dL_law_1217 ?_
      refine ra_if_eq (tgt := 1223) E dL_law_1218 (by decide) (fun q9 => ?_) (fun q9 => ?_)
      · replace h := h.1 q9
        refine ra_goto (tgt := 3273) E dL_law_1223 (by decide) ?_
        exact ra_sub (L' := [(4, _), (3, _), (2, _), (1, _), (0, _)]) [2, 3, 4, 5, 6] rfl (ra_widen (k := cells + 16) (n := slots + 96) (by omega) (by omega) (hK _ h))
      · replace h := h.2 q9
        refine ra_iconst E dL_law_1221 ki_0 ?_
        exact h.elim
  · replace h := h.2 q7
    refine ra_iconst E dL_law_1204 ki_0 ?_
    exact h.elim
def f_law_20 (xs : Nat → Int32) (i : Int32) (M : TM) (K : TM → Prop) : Prop := f_L_queueLength (xs (i + (1 : Int32)).toNatClampNeg) M (fun r2 M1 => f_X13_queueLength (xs (i + (1 : Int32)).toNatClampNeg) M1 (fun r4 M3 => f_X13_thrown M3 (fun r6 M5 => ((r6 = r2 → ((¬ r2 = 0 → K M5) ∧ (r2 = 0 → (((lg_cmp (M5 710 0).toInt64 r4.toInt64) = 0 → K M5) ∧ (¬ (lg_cmp (M5 710 0).toInt64 r4.toInt64) = 0 → False))))) ∧ (¬ r6 = r2 → False)))))
set_option maxRecDepth 100000 in
set_option maxHeartbeats 4000000 in
theorem l_law_20 {p : Program} {l : Launch} {e : Env} {R : Room} {s : State} {m : MethodId} {args : Array Value} {below : List Frame} {meth : Method} {c : Code} {cells slots : Nat} {Q : State → Prop} {D : va_G} {tc : Nat → ClassId} {ad : Nat → Nat} {b Lx : Nat} {xs : Nat → Int32} {i : Int32} {K : TM → Prop} (E : Ev p s m args meth c D tc ad RL cL_law 9) (hfl : l.stackTraces = false) (hX : va_X b Lx xs s s.heap) (hbl : b < s.heap.size) (hbA : ¬ A0 ad s.heap.size b) (hw0 : vp_in i Lx) (hw1 : vp_in (i + (1 : Int32)) Lx) (hw2 : vp_in (i + (2 : Int32)) Lx) (hw3 : vp_in (i + (3 : Int32)) Lx) (hw4 : vp_in (i + (4 : Int32)) Lx) (hw5 : vp_in (i + (5 : Int32)) Lx) (hRm : 40 ≤ R.frames ∧ 1640 ≤ R.locals) (hcl : cells + 16 ≤ R.cells ∧ slots + 96 ≤ R.slots) (hK : ∀ M', K M' → Wa p l e R s m args below meth c (cells + 16) (slots + 96) Q D tc ad 9 M' 3273 [(4, .int i), (3, .ref (ad 710)), (2, .ref (ad 699)), (1, .ref (ad 0)), (0, .ref b)] []) (M : TM) (h : f_law_20 xs i M K) : Wa p l e R s m args below meth c cells slots Q D tc ad 9 M 1226 [(4, .int i), (3, .ref (ad 710)), (2, .ref (ad 699)), (1, .ref (ad 0)), (0, .ref b)] [] := by
  unfold f_law_20 at h
  refine ra_aload_n E dL_law_1226 rfl 3 rfl ?_
  refine ra_aload_n E dL_law_1227 rfl 4 rfl ?_
  refine ra_iload E dL_law_1228 0 rfl ?_
  refine ra_iconst E dL_law_1230 ki_1 ?_
  refine ra_iadd E dL_law_1231 ?_
  refine ra_sld E hX hbl hbA hw1 dL_law_1232 ?_
  refine ra_aload_n E dL_law_1233 rfl 1 rfl ?_
  refine rx_callW (rest := []) E hfl (c_L_queueLength _ _ _ h) lq_L ctw_L_queueLength ml_L_232 (by decide) rfl rfl (Nat.le_of_ble_eq_true rfl) ⟨by omega, by omega⟩ ⟨by omega, by omega⟩ dL_law_1234 (fun r2 M1 h => ?_)
  refine ra_istore (L' := [(5, _), (4, _), (3, _), (2, _), (1, _), (0, _)]) E dL_law_1237 (by decide) rfl ?_
  refine ra_aload_n E dL_law_1239 rfl 3 rfl ?_
  refine ra_aload_n E dL_law_1240 rfl 5 rfl ?_
  refine ra_iload E dL_law_1241 1 rfl ?_
  refine ra_iconst E dL_law_1243 ki_1 ?_
  refine ra_iadd E dL_law_1244 ?_
  refine ra_sld E hX hbl hbA hw1 dL_law_1245 ?_
  refine ra_callIV (rest := []) E (c_X13_queueLength _ _ _ h) lq_13L cv_X13_queueLength ml_L_234 (by decide) (lmL (k := 699) (by decide)) (fun R => ⟨_, cel_699 tc ad R⟩) rfl rfl rfl (Nat.le_of_ble_eq_true rfl) ⟨by omega, by omega⟩ ⟨by omega, by omega⟩ dL_law_1246 (fun r4 M3 h => ?_)
  refine ra_istore (L' := [(6, _), (5, _), (4, _), (3, _), (2, _), (1, _), (0, _)]) E dL_law_1249 (by decide) rfl ?_
  refine ra_aload_n E dL_law_1251 rfl 4 rfl ?_
  refine ra_callIV (rest := []) E (c_X13_thrown _ _ h) lq_13L cv_X13_thrown ml_L_170 (by decide) (lmL (k := 699) (by decide)) (fun R => ⟨_, cel_699 tc ad R⟩) rfl rfl rfl (Nat.le_of_ble_eq_true rfl) ⟨by omega, by omega⟩ ⟨by omega, by omega⟩ dL_law_1252 (fun r6 M5 h => ?_)
  refine ra_iload E dL_law_1255 1 rfl ?_
  refine ra_icmp_eq (tgt := 1262) E dL_law_1257 (by decide) (fun q7 => ?_) (fun q7 => ?_)
  · replace h := h.1 q7
    refine ra_iload E dL_law_1262 1 rfl ?_
    refine ra_if_ne (tgt := 1279) E dL_law_1264 (by decide) (fun q8 => ?_) (fun q8 => ?_)
    · replace h := h.1 q8
      refine ra_goto (tgt := 3273) E dL_law_1279 (by decide) ?_
      exact ra_sub (L' := [(4, _), (3, _), (2, _), (1, _), (0, _)]) [2, 3, 4, 5, 6] rfl (ra_widen (k := cells + 16) (n := slots + 96) (by omega) (by omega) (hK _ h))
    · replace h := h.2 q8
      refine ra_aload_n E dL_law_1267 rfl 3 rfl ?_
      refine ra_iconst E dL_law_1268 ki_0 ?_
      refine ra_lald E (lmL (by decide)) rfl dL_law_1269 ?_
      refine ra_iload E dL_law_1270 0 rfl ?_
      refine ra_i2l E dL_law_1272 rfl ?_
      refine ra_lcmp E dL_law_1273 ?_
      refine ra_if_eq (tgt := 1279) E dL_law_1274 (by decide) (fun q9 => ?_) (fun q9 => ?_)
      · replace h := h.1 q9
        refine ra_goto (tgt := 3273) E dL_law_1279 (by decide) ?_
        exact ra_sub (L' := [(4, _), (3, _), (2, _), (1, _), (0, _)]) [2, 3, 4, 5, 6] rfl (ra_widen (k := cells + 16) (n := slots + 96) (by omega) (by omega) (hK _ h))
      · replace h := h.2 q9
        refine ra_iconst E dL_law_1277 ki_0 ?_
        exact h.elim
  · replace h := h.2 q7
    refine ra_iconst E dL_law_1260 ki_0 ?_
    exact h.elim
def f_law_21 (xs : Nat → Int32) (i : Int32) (M : TM) (K : TM → Prop) : Prop := f_L_queuedOrder (xs (i + (1 : Int32)).toNatClampNeg) (xs (i + (2 : Int32)).toNatClampNeg) M (fun r2 M1 => f_X13_queuedOrder (xs (i + (1 : Int32)).toNatClampNeg) (xs (i + (2 : Int32)).toNatClampNeg) M1 (fun r4 M3 => f_X13_thrown M3 (fun r6 M5 => ((r6 = r2 → ((¬ r2 = 0 → K M5) ∧ (r2 = 0 → (((lg_cmp (M5 710 0).toInt64 r4.toInt64) = 0 → K M5) ∧ (¬ (lg_cmp (M5 710 0).toInt64 r4.toInt64) = 0 → False))))) ∧ (¬ r6 = r2 → False)))))
set_option maxRecDepth 100000 in
set_option maxHeartbeats 4000000 in
theorem l_law_21 {p : Program} {l : Launch} {e : Env} {R : Room} {s : State} {m : MethodId} {args : Array Value} {below : List Frame} {meth : Method} {c : Code} {cells slots : Nat} {Q : State → Prop} {D : va_G} {tc : Nat → ClassId} {ad : Nat → Nat} {b Lx : Nat} {xs : Nat → Int32} {i : Int32} {K : TM → Prop} (E : Ev p s m args meth c D tc ad RL cL_law 9) (hfl : l.stackTraces = false) (hX : va_X b Lx xs s s.heap) (hbl : b < s.heap.size) (hbA : ¬ A0 ad s.heap.size b) (hw0 : vp_in i Lx) (hw1 : vp_in (i + (1 : Int32)) Lx) (hw2 : vp_in (i + (2 : Int32)) Lx) (hw3 : vp_in (i + (3 : Int32)) Lx) (hw4 : vp_in (i + (4 : Int32)) Lx) (hw5 : vp_in (i + (5 : Int32)) Lx) (hRm : 40 ≤ R.frames ∧ 1640 ≤ R.locals) (hcl : cells + 16 ≤ R.cells ∧ slots + 96 ≤ R.slots) (hK : ∀ M', K M' → Wa p l e R s m args below meth c (cells + 16) (slots + 96) Q D tc ad 9 M' 3273 [(4, .int i), (3, .ref (ad 710)), (2, .ref (ad 699)), (1, .ref (ad 0)), (0, .ref b)] []) (M : TM) (h : f_law_21 xs i M K) : Wa p l e R s m args below meth c cells slots Q D tc ad 9 M 1282 [(4, .int i), (3, .ref (ad 710)), (2, .ref (ad 699)), (1, .ref (ad 0)), (0, .ref b)] [] := by
  unfold f_law_21 at h
  refine ra_aload_n E dL_law_1282 rfl 3 rfl ?_
  refine ra_aload_n E dL_law_1283 rfl 4 rfl ?_
  refine ra_iload E dL_law_1284 0 rfl ?_
  refine ra_iconst E dL_law_1286 ki_1 ?_
  refine ra_iadd E dL_law_1287 ?_
  refine ra_sld E hX hbl hbA hw1 dL_law_1288 ?_
  refine ra_aload_n E dL_law_1289 rfl 4 rfl ?_
  refine ra_iload E dL_law_1290 0 rfl ?_
  refine ra_iconst E dL_law_1292 ki_2 ?_
  refine ra_iadd E dL_law_1293 ?_
  refine ra_sld E hX hbl hbA hw2 dL_law_1294 ?_
  refine ra_aload_n E dL_law_1295 rfl 1 rfl ?_
  refine rx_callW (rest := []) E hfl (c_L_queuedOrder _ _ _ _ h) lq_L ctw_L_queuedOrder ml_L_235 (by decide) rfl rfl (Nat.le_of_ble_eq_true rfl) ⟨by omega, by omega⟩ ⟨by omega, by omega⟩ dL_law_1296 (fun r2 M1 h => ?_)
  refine ra_istore (L' := [(5, _), (4, _), (3, _), (2, _), (1, _), (0, _)]) E dL_law_1299 (by decide) rfl ?_
  refine ra_aload_n E dL_law_1301 rfl 3 rfl ?_
  refine ra_aload_n E dL_law_1302 rfl 5 rfl ?_
  refine ra_iload E dL_law_1303 1 rfl ?_
  refine ra_iconst E dL_law_1305 ki_1 ?_
  refine ra_iadd E dL_law_1306 ?_
  refine ra_sld E hX hbl hbA hw1 dL_law_1307 ?_
  refine ra_aload_n E dL_law_1308 rfl 5 rfl ?_
  refine ra_iload E dL_law_1309 1 rfl ?_
  refine ra_iconst E dL_law_1311 ki_2 ?_
  refine ra_iadd E dL_law_1312 ?_
  refine ra_sld E hX hbl hbA hw2 dL_law_1313 ?_
  refine ra_callIV (rest := []) E (c_X13_queuedOrder _ _ _ _ h) lq_13L cv_X13_queuedOrder ml_L_238 (by decide) (lmL (k := 699) (by decide)) (fun R => ⟨_, cel_699 tc ad R⟩) rfl rfl rfl (Nat.le_of_ble_eq_true rfl) ⟨by omega, by omega⟩ ⟨by omega, by omega⟩ dL_law_1314 (fun r4 M3 h => ?_)
  refine ra_istore (L' := [(6, _), (5, _), (4, _), (3, _), (2, _), (1, _), (0, _)]) E dL_law_1317 (by decide) rfl ?_
  refine ra_aload_n E dL_law_1319 rfl 4 rfl ?_
  refine ra_callIV (rest := []) E (c_X13_thrown _ _ h) lq_13L cv_X13_thrown ml_L_170 (by decide) (lmL (k := 699) (by decide)) (fun R => ⟨_, cel_699 tc ad R⟩) rfl rfl rfl (Nat.le_of_ble_eq_true rfl) ⟨by omega, by omega⟩ ⟨by omega, by omega⟩ dL_law_1320 (fun r6 M5 h => ?_)
  refine ra_iload E dL_law_1323 1 rfl ?_
  refine ra_icmp_eq (tgt := 1330) E dL_law_1325 (by decide) (fun q7 => ?_) (fun q7 => ?_)
  · replace h := h.1 q7
    refine ra_iload E dL_law_1330 1 rfl ?_
    refine ra_if_ne (tgt := 1347) E dL_law_1332 (by decide) (fun q8 => ?_) (fun q8 => ?_)
    · replace h := h.1 q8
      refine ra_goto (tgt := 3273) E dL_law_1347 (by decide) ?_
      exact ra_sub (L' := [(4, _), (3, _), (2, _), (1, _), (0, _)]) [2, 3, 4, 5, 6] rfl (ra_widen (k := cells + 16) (n := slots + 96) (by omega) (by omega) (hK _ h))
    · replace h := h.2 q8
      refine ra_aload_n E dL_law_1335 rfl 3 rfl ?_
      refine ra_iconst E dL_law_1336 ki_0 ?_
      refine ra_lald E (lmL (by decide)) rfl dL_law_1337 ?_
      refine ra_iload E dL_law_1338 0 rfl ?_
      refine ra_i2l E dL_law_1340 rfl ?_
      refine ra_lcmp E dL_law_1341 ?_
      refine ra_if_eq (tgt := 1347) E dL_law_1342 (by decide) (fun q9 => ?_) (fun q9 => ?_)
      · replace h := h.1 q9
        refine ra_goto (tgt := 3273) E dL_law_1347 (by decide) ?_
        exact ra_sub (L' := [(4, _), (3, _), (2, _), (1, _), (0, _)]) [2, 3, 4, 5, 6] rfl (ra_widen (k := cells + 16) (n := slots + 96) (by omega) (by omega) (hK _ h))
      · replace h := h.2 q9
        refine ra_iconst E dL_law_1345 ki_0 ?_
        exact h.elim
  · replace h := h.2 q7
    refine ra_iconst E dL_law_1328 ki_0 ?_
    exact h.elim
def f_law_22 (xs : Nat → Int32) (i : Int32) (M : TM) (K : TM → Prop) : Prop := f_L_readyCount (xs (i + (1 : Int32)).toNatClampNeg) M (fun r2 M1 => f_X13_readyCount (xs (i + (1 : Int32)).toNatClampNeg) M1 (fun r4 M3 => f_X13_thrown M3 (fun r6 M5 => ((r6 = r2 → ((¬ r2 = 0 → K M5) ∧ (r2 = 0 → (((lg_cmp (M5 710 0).toInt64 r4.toInt64) = 0 → K M5) ∧ (¬ (lg_cmp (M5 710 0).toInt64 r4.toInt64) = 0 → False))))) ∧ (¬ r6 = r2 → False)))))
set_option maxRecDepth 100000 in
set_option maxHeartbeats 4000000 in
theorem l_law_22 {p : Program} {l : Launch} {e : Env} {R : Room} {s : State} {m : MethodId} {args : Array Value} {below : List Frame} {meth : Method} {c : Code} {cells slots : Nat} {Q : State → Prop} {D : va_G} {tc : Nat → ClassId} {ad : Nat → Nat} {b Lx : Nat} {xs : Nat → Int32} {i : Int32} {K : TM → Prop} (E : Ev p s m args meth c D tc ad RL cL_law 9) (hfl : l.stackTraces = false) (hX : va_X b Lx xs s s.heap) (hbl : b < s.heap.size) (hbA : ¬ A0 ad s.heap.size b) (hw0 : vp_in i Lx) (hw1 : vp_in (i + (1 : Int32)) Lx) (hw2 : vp_in (i + (2 : Int32)) Lx) (hw3 : vp_in (i + (3 : Int32)) Lx) (hw4 : vp_in (i + (4 : Int32)) Lx) (hw5 : vp_in (i + (5 : Int32)) Lx) (hRm : 40 ≤ R.frames ∧ 1640 ≤ R.locals) (hcl : cells + 16 ≤ R.cells ∧ slots + 96 ≤ R.slots) (hK : ∀ M', K M' → Wa p l e R s m args below meth c (cells + 16) (slots + 96) Q D tc ad 9 M' 3273 [(4, .int i), (3, .ref (ad 710)), (2, .ref (ad 699)), (1, .ref (ad 0)), (0, .ref b)] []) (M : TM) (h : f_law_22 xs i M K) : Wa p l e R s m args below meth c cells slots Q D tc ad 9 M 1350 [(4, .int i), (3, .ref (ad 710)), (2, .ref (ad 699)), (1, .ref (ad 0)), (0, .ref b)] [] := by
  unfold f_law_22 at h
  refine ra_aload_n E dL_law_1350 rfl 3 rfl ?_
  refine ra_aload_n E dL_law_1351 rfl 4 rfl ?_
  refine ra_iload E dL_law_1352 0 rfl ?_
  refine ra_iconst E dL_law_1354 ki_1 ?_
  refine ra_iadd E dL_law_1355 ?_
  refine ra_sld E hX hbl hbA hw1 dL_law_1356 ?_
  refine ra_aload_n E dL_law_1357 rfl 1 rfl ?_
  refine rx_callW (rest := []) E hfl (c_L_readyCount _ _ _ h) lq_L ctw_L_readyCount ml_L_239 (by decide) rfl rfl (Nat.le_of_ble_eq_true rfl) ⟨by omega, by omega⟩ ⟨by omega, by omega⟩ dL_law_1358 (fun r2 M1 h => ?_)
  refine ra_istore (L' := [(5, _), (4, _), (3, _), (2, _), (1, _), (0, _)]) E dL_law_1361 (by decide) rfl ?_
  refine ra_aload_n E dL_law_1363 rfl 3 rfl ?_
  refine ra_aload_n E dL_law_1364 rfl 5 rfl ?_
  refine ra_iload E dL_law_1365 1 rfl ?_
  refine ra_iconst E dL_law_1367 ki_1 ?_
  refine ra_iadd E dL_law_1368 ?_
  refine ra_sld E hX hbl hbA hw1 dL_law_1369 ?_
  refine ra_callIV (rest := []) E (c_X13_readyCount _ _ _ h) lq_13L cv_X13_readyCount ml_L_241 (by decide) (lmL (k := 699) (by decide)) (fun R => ⟨_, cel_699 tc ad R⟩) rfl rfl rfl (Nat.le_of_ble_eq_true rfl) ⟨by omega, by omega⟩ ⟨by omega, by omega⟩ dL_law_1370 (fun r4 M3 h => ?_)
  refine ra_istore (L' := [(6, _), (5, _), (4, _), (3, _), (2, _), (1, _), (0, _)]) E dL_law_1373 (by decide) rfl ?_
  refine ra_aload_n E dL_law_1375 rfl 4 rfl ?_
  refine ra_callIV (rest := []) E (c_X13_thrown _ _ h) lq_13L cv_X13_thrown ml_L_170 (by decide) (lmL (k := 699) (by decide)) (fun R => ⟨_, cel_699 tc ad R⟩) rfl rfl rfl (Nat.le_of_ble_eq_true rfl) ⟨by omega, by omega⟩ ⟨by omega, by omega⟩ dL_law_1376 (fun r6 M5 h => ?_)
  refine ra_iload E dL_law_1379 1 rfl ?_
  refine ra_icmp_eq (tgt := 1386) E dL_law_1381 (by decide) (fun q7 => ?_) (fun q7 => ?_)
  · replace h := h.1 q7
    refine ra_iload E dL_law_1386 1 rfl ?_
    refine ra_if_ne (tgt := 1403) E dL_law_1388 (by decide) (fun q8 => ?_) (fun q8 => ?_)
    · replace h := h.1 q8
      refine ra_goto (tgt := 3273) E dL_law_1403 (by decide) ?_
      exact ra_sub (L' := [(4, _), (3, _), (2, _), (1, _), (0, _)]) [2, 3, 4, 5, 6] rfl (ra_widen (k := cells + 16) (n := slots + 96) (by omega) (by omega) (hK _ h))
    · replace h := h.2 q8
      refine ra_aload_n E dL_law_1391 rfl 3 rfl ?_
      refine ra_iconst E dL_law_1392 ki_0 ?_
      refine ra_lald E (lmL (by decide)) rfl dL_law_1393 ?_
      refine ra_iload E dL_law_1394 0 rfl ?_
      refine ra_i2l E dL_law_1396 rfl ?_
      refine ra_lcmp E dL_law_1397 ?_
      refine ra_if_eq (tgt := 1403) E dL_law_1398 (by decide) (fun q9 => ?_) (fun q9 => ?_)
      · replace h := h.1 q9
        refine ra_goto (tgt := 3273) E dL_law_1403 (by decide) ?_
        exact ra_sub (L' := [(4, _), (3, _), (2, _), (1, _), (0, _)]) [2, 3, 4, 5, 6] rfl (ra_widen (k := cells + 16) (n := slots + 96) (by omega) (by omega) (hK _ h))
      · replace h := h.2 q9
        refine ra_iconst E dL_law_1401 ki_0 ?_
        exact h.elim
  · replace h := h.2 q7
    refine ra_iconst E dL_law_1384 ki_0 ?_
    exact h.elim
def f_law_23 (xs : Nat → Int32) (i : Int32) (M : TM) (K : TM → Prop) : Prop := f_L_flourNeeded (xs (i + (1 : Int32)).toNatClampNeg) M (fun r2 M1 => f_X13_flourNeeded (xs (i + (1 : Int32)).toNatClampNeg) M1 (fun r4 M3 => f_X13_thrown M3 (fun r6 M5 => ((r6 = r2 → ((¬ r2 = 0 → K M5) ∧ (r2 = 0 → (((lg_cmp (M5 710 0).toInt64 r4.toInt64) = 0 → K M5) ∧ (¬ (lg_cmp (M5 710 0).toInt64 r4.toInt64) = 0 → False))))) ∧ (¬ r6 = r2 → False)))))
set_option maxRecDepth 100000 in
set_option maxHeartbeats 4000000 in
theorem l_law_23 {p : Program} {l : Launch} {e : Env} {R : Room} {s : State} {m : MethodId} {args : Array Value} {below : List Frame} {meth : Method} {c : Code} {cells slots : Nat} {Q : State → Prop} {D : va_G} {tc : Nat → ClassId} {ad : Nat → Nat} {b Lx : Nat} {xs : Nat → Int32} {i : Int32} {K : TM → Prop} (E : Ev p s m args meth c D tc ad RL cL_law 9) (hfl : l.stackTraces = false) (hX : va_X b Lx xs s s.heap) (hbl : b < s.heap.size) (hbA : ¬ A0 ad s.heap.size b) (hw0 : vp_in i Lx) (hw1 : vp_in (i + (1 : Int32)) Lx) (hw2 : vp_in (i + (2 : Int32)) Lx) (hw3 : vp_in (i + (3 : Int32)) Lx) (hw4 : vp_in (i + (4 : Int32)) Lx) (hw5 : vp_in (i + (5 : Int32)) Lx) (hRm : 40 ≤ R.frames ∧ 1640 ≤ R.locals) (hcl : cells + 16 ≤ R.cells ∧ slots + 96 ≤ R.slots) (hK : ∀ M', K M' → Wa p l e R s m args below meth c (cells + 16) (slots + 96) Q D tc ad 9 M' 3273 [(4, .int i), (3, .ref (ad 710)), (2, .ref (ad 699)), (1, .ref (ad 0)), (0, .ref b)] []) (M : TM) (h : f_law_23 xs i M K) : Wa p l e R s m args below meth c cells slots Q D tc ad 9 M 1406 [(4, .int i), (3, .ref (ad 710)), (2, .ref (ad 699)), (1, .ref (ad 0)), (0, .ref b)] [] := by
  unfold f_law_23 at h
  refine ra_aload_n E dL_law_1406 rfl 3 rfl ?_
  refine ra_aload_n E dL_law_1407 rfl 4 rfl ?_
  refine ra_iload E dL_law_1408 0 rfl ?_
  refine ra_iconst E dL_law_1410 ki_1 ?_
  refine ra_iadd E dL_law_1411 ?_
  refine ra_sld E hX hbl hbA hw1 dL_law_1412 ?_
  refine ra_aload_n E dL_law_1413 rfl 1 rfl ?_
  refine rx_callW (rest := []) E hfl (c_L_flourNeeded _ _ _ h) lq_L ctw_L_flourNeeded ml_L_242 (by decide) rfl rfl (Nat.le_of_ble_eq_true rfl) ⟨by omega, by omega⟩ ⟨by omega, by omega⟩ dL_law_1414 (fun r2 M1 h => ?_)
  refine ra_istore (L' := [(5, _), (4, _), (3, _), (2, _), (1, _), (0, _)]) E dL_law_1417 (by decide) rfl ?_
  refine ra_aload_n E dL_law_1419 rfl 3 rfl ?_
  refine ra_aload_n E dL_law_1420 rfl 5 rfl ?_
  refine ra_iload E dL_law_1421 1 rfl ?_
  refine ra_iconst E dL_law_1423 ki_1 ?_
  refine ra_iadd E dL_law_1424 ?_
  refine ra_sld E hX hbl hbA hw1 dL_law_1425 ?_
  refine ra_callIV (rest := []) E (c_X13_flourNeeded _ _ _ h) lq_13L cv_X13_flourNeeded ml_L_244 (by decide) (lmL (k := 699) (by decide)) (fun R => ⟨_, cel_699 tc ad R⟩) rfl rfl rfl (Nat.le_of_ble_eq_true rfl) ⟨by omega, by omega⟩ ⟨by omega, by omega⟩ dL_law_1426 (fun r4 M3 h => ?_)
  refine ra_istore (L' := [(6, _), (5, _), (4, _), (3, _), (2, _), (1, _), (0, _)]) E dL_law_1429 (by decide) rfl ?_
  refine ra_aload_n E dL_law_1431 rfl 4 rfl ?_
  refine ra_callIV (rest := []) E (c_X13_thrown _ _ h) lq_13L cv_X13_thrown ml_L_170 (by decide) (lmL (k := 699) (by decide)) (fun R => ⟨_, cel_699 tc ad R⟩) rfl rfl rfl (Nat.le_of_ble_eq_true rfl) ⟨by omega, by omega⟩ ⟨by omega, by omega⟩ dL_law_1432 (fun r6 M5 h => ?_)
  refine ra_iload E dL_law_1435 1 rfl ?_
  refine ra_icmp_eq (tgt := 1442) E dL_law_1437 (by decide) (fun q7 => ?_) (fun q7 => ?_)
  · replace h := h.1 q7
    refine ra_iload E dL_law_1442 1 rfl ?_
    refine ra_if_ne (tgt := 1459) E dL_law_1444 (by decide) (fun q8 => ?_) (fun q8 => ?_)
    · replace h := h.1 q8
      refine ra_goto (tgt := 3273) E dL_law_1459 (by decide) ?_
      exact ra_sub (L' := [(4, _), (3, _), (2, _), (1, _), (0, _)]) [2, 3, 4, 5, 6] rfl (ra_widen (k := cells + 16) (n := slots + 96) (by omega) (by omega) (hK _ h))
    · replace h := h.2 q8
      refine ra_aload_n E dL_law_1447 rfl 3 rfl ?_
      refine ra_iconst E dL_law_1448 ki_0 ?_
      refine ra_lald E (lmL (by decide)) rfl dL_law_1449 ?_
      refine ra_iload E dL_law_1450 0 rfl ?_
      refine ra_i2l E dL_law_1452 rfl ?_
      refine ra_lcmp E dL_law_1453 ?_
      refine ra_if_eq (tgt := 1459) E dL_law_1454 (by decide) (fun q9 => ?_) (fun q9 => ?_)
      · replace h := h.1 q9
        refine ra_goto (tgt := 3273) E dL_law_1459 (by decide) ?_
        exact ra_sub (L' := [(4, _), (3, _), (2, _), (1, _), (0, _)]) [2, 3, 4, 5, 6] rfl (ra_widen (k := cells + 16) (n := slots + 96) (by omega) (by omega) (hK _ h))
      · replace h := h.2 q9
        refine ra_iconst E dL_law_1457 ki_0 ?_
        exact h.elim
  · replace h := h.2 q7
    refine ra_iconst E dL_law_1440 ki_0 ?_
    exact h.elim
def f_law_24 (xs : Nat → Int32) (i : Int32) (M : TM) (K : TM → Prop) : Prop := f_X12_orderCount M (fun r2 M1 => f_X13_orderCount M1 (fun r4 M3 => ((r2 = r4 → K M3) ∧ (¬ r2 = r4 → False))))
set_option maxRecDepth 100000 in
set_option maxHeartbeats 4000000 in
theorem l_law_24 {p : Program} {l : Launch} {e : Env} {R : Room} {s : State} {m : MethodId} {args : Array Value} {below : List Frame} {meth : Method} {c : Code} {cells slots : Nat} {Q : State → Prop} {D : va_G} {tc : Nat → ClassId} {ad : Nat → Nat} {b Lx : Nat} {xs : Nat → Int32} {i : Int32} {K : TM → Prop} (E : Ev p s m args meth c D tc ad RL cL_law 9) (hfl : l.stackTraces = false) (hX : va_X b Lx xs s s.heap) (hbl : b < s.heap.size) (hbA : ¬ A0 ad s.heap.size b) (hw0 : vp_in i Lx) (hw1 : vp_in (i + (1 : Int32)) Lx) (hw2 : vp_in (i + (2 : Int32)) Lx) (hw3 : vp_in (i + (3 : Int32)) Lx) (hw4 : vp_in (i + (4 : Int32)) Lx) (hw5 : vp_in (i + (5 : Int32)) Lx) (hRm : 40 ≤ R.frames ∧ 1640 ≤ R.locals) (hcl : cells + 16 ≤ R.cells ∧ slots + 96 ≤ R.slots) (hK : ∀ M', K M' → Wa p l e R s m args below meth c (cells + 16) (slots + 96) Q D tc ad 9 M' 3273 [(4, .int i), (3, .ref (ad 710)), (2, .ref (ad 699)), (1, .ref (ad 0)), (0, .ref b)] []) (M : TM) (h : f_law_24 xs i M K) : Wa p l e R s m args below meth c cells slots Q D tc ad 9 M 1462 [(4, .int i), (3, .ref (ad 710)), (2, .ref (ad 699)), (1, .ref (ad 0)), (0, .ref b)] [] := by
  unfold f_law_24 at h
  refine ra_aload_n E dL_law_1462 rfl 3 rfl ?_
  refine ra_callIV (rest := []) E (c_X12_orderCount _ _ h) (lq_X12 _) cv_X12_orderCount ml_L_245 (by decide) (lm (by decide)) (fun R => ⟨_, cel_0 tc ad R⟩) rfl rfl rfl (Nat.le_of_ble_eq_true rfl) ⟨by omega, by omega⟩ ⟨by omega, by omega⟩ dL_law_1463 (fun r2 M1 h => ?_)
  refine ra_aload_n E dL_law_1466 rfl 2 rfl ?_
  refine ra_callIV (rest := [_]) E (c_X13_orderCount _ _ h) lq_13L cv_X13_orderCount ml_L_248 (by decide) (lmL (k := 699) (by decide)) (fun R => ⟨_, cel_699 tc ad R⟩) rfl rfl rfl (Nat.le_of_ble_eq_true rfl) ⟨by omega, by omega⟩ ⟨by omega, by omega⟩ dL_law_1467 (fun r4 M3 h => ?_)
  refine ra_icmp_eq (tgt := 3273) E dL_law_1470 (by decide) (fun q5 => ?_) (fun q5 => ?_)
  · replace h := h.1 q5
    exact ra_sub (L' := [(4, _), (3, _), (2, _), (1, _), (0, _)]) [0, 1, 2, 3, 4] rfl (ra_widen (k := cells + 16) (n := slots + 96) (by omega) (by omega) (hK _ h))
  · replace h := h.2 q5
    refine ra_iconst E dL_law_1473 ki_0 ?_
    exact h.elim
def f_law_25 (xs : Nat → Int32) (i : Int32) (M : TM) (K : TM → Prop) : Prop := f_L_orderPlace (xs (i + (1 : Int32)).toNatClampNeg) M (fun r2 M1 => f_X13_orderPlace (xs (i + (1 : Int32)).toNatClampNeg) M1 (fun r4 M3 => f_X13_thrown M3 (fun r6 M5 => ((r6 = r2 → ((¬ r2 = 0 → K M5) ∧ (r2 = 0 → (((lg_cmp (M5 710 0).toInt64 r4.toInt64) = 0 → K M5) ∧ (¬ (lg_cmp (M5 710 0).toInt64 r4.toInt64) = 0 → False))))) ∧ (¬ r6 = r2 → False)))))
set_option maxRecDepth 100000 in
set_option maxHeartbeats 4000000 in
theorem l_law_25 {p : Program} {l : Launch} {e : Env} {R : Room} {s : State} {m : MethodId} {args : Array Value} {below : List Frame} {meth : Method} {c : Code} {cells slots : Nat} {Q : State → Prop} {D : va_G} {tc : Nat → ClassId} {ad : Nat → Nat} {b Lx : Nat} {xs : Nat → Int32} {i : Int32} {K : TM → Prop} (E : Ev p s m args meth c D tc ad RL cL_law 9) (hfl : l.stackTraces = false) (hX : va_X b Lx xs s s.heap) (hbl : b < s.heap.size) (hbA : ¬ A0 ad s.heap.size b) (hw0 : vp_in i Lx) (hw1 : vp_in (i + (1 : Int32)) Lx) (hw2 : vp_in (i + (2 : Int32)) Lx) (hw3 : vp_in (i + (3 : Int32)) Lx) (hw4 : vp_in (i + (4 : Int32)) Lx) (hw5 : vp_in (i + (5 : Int32)) Lx) (hRm : 40 ≤ R.frames ∧ 1640 ≤ R.locals) (hcl : cells + 16 ≤ R.cells ∧ slots + 96 ≤ R.slots) (hK : ∀ M', K M' → Wa p l e R s m args below meth c (cells + 16) (slots + 96) Q D tc ad 9 M' 3273 [(4, .int i), (3, .ref (ad 710)), (2, .ref (ad 699)), (1, .ref (ad 0)), (0, .ref b)] []) (M : TM) (h : f_law_25 xs i M K) : Wa p l e R s m args below meth c cells slots Q D tc ad 9 M 1475 [(4, .int i), (3, .ref (ad 710)), (2, .ref (ad 699)), (1, .ref (ad 0)), (0, .ref b)] [] := by
  unfold f_law_25 at h
  refine ra_aload_n E dL_law_1475 rfl 3 rfl ?_
  refine ra_aload_n E dL_law_1476 rfl 4 rfl ?_
  refine ra_iload E dL_law_1477 0 rfl ?_
  refine ra_iconst E dL_law_1479 ki_1 ?_
  refine ra_iadd E dL_law_1480 ?_
  refine ra_sld E hX hbl hbA hw1 dL_law_1481 ?_
  refine ra_aload_n E dL_law_1482 rfl 1 rfl ?_
  refine rx_callW (rest := []) E hfl (c_L_orderPlace _ _ _ h) lq_L ctw_L_orderPlace ml_L_249 (by decide) rfl rfl (Nat.le_of_ble_eq_true rfl) ⟨by omega, by omega⟩ ⟨by omega, by omega⟩ dL_law_1483 (fun r2 M1 h => ?_)
  refine ra_istore (L' := [(5, _), (4, _), (3, _), (2, _), (1, _), (0, _)]) E dL_law_1486 (by decide) rfl ?_
  refine ra_aload_n E dL_law_1488 rfl 3 rfl ?_
  refine ra_aload_n E dL_law_1489 rfl 5 rfl ?_
  refine ra_iload E dL_law_1490 1 rfl ?_
  refine ra_iconst E dL_law_1492 ki_1 ?_
  refine ra_iadd E dL_law_1493 ?_
  refine ra_sld E hX hbl hbA hw1 dL_law_1494 ?_
  refine ra_callIV (rest := []) E (c_X13_orderPlace _ _ _ h) lq_13L cv_X13_orderPlace ml_L_251 (by decide) (lmL (k := 699) (by decide)) (fun R => ⟨_, cel_699 tc ad R⟩) rfl rfl rfl (Nat.le_of_ble_eq_true rfl) ⟨by omega, by omega⟩ ⟨by omega, by omega⟩ dL_law_1495 (fun r4 M3 h => ?_)
  refine ra_istore (L' := [(6, _), (5, _), (4, _), (3, _), (2, _), (1, _), (0, _)]) E dL_law_1498 (by decide) rfl ?_
  refine ra_aload_n E dL_law_1500 rfl 4 rfl ?_
  refine ra_callIV (rest := []) E (c_X13_thrown _ _ h) lq_13L cv_X13_thrown ml_L_170 (by decide) (lmL (k := 699) (by decide)) (fun R => ⟨_, cel_699 tc ad R⟩) rfl rfl rfl (Nat.le_of_ble_eq_true rfl) ⟨by omega, by omega⟩ ⟨by omega, by omega⟩ dL_law_1501 (fun r6 M5 h => ?_)
  refine ra_iload E dL_law_1504 1 rfl ?_
  refine ra_icmp_eq (tgt := 1511) E dL_law_1506 (by decide) (fun q7 => ?_) (fun q7 => ?_)
  · replace h := h.1 q7
    refine ra_iload E dL_law_1511 1 rfl ?_
    refine ra_if_ne (tgt := 1528) E dL_law_1513 (by decide) (fun q8 => ?_) (fun q8 => ?_)
    · replace h := h.1 q8
      refine ra_goto (tgt := 3273) E dL_law_1528 (by decide) ?_
      exact ra_sub (L' := [(4, _), (3, _), (2, _), (1, _), (0, _)]) [2, 3, 4, 5, 6] rfl (ra_widen (k := cells + 16) (n := slots + 96) (by omega) (by omega) (hK _ h))
    · replace h := h.2 q8
      refine ra_aload_n E dL_law_1516 rfl 3 rfl ?_
      refine ra_iconst E dL_law_1517 ki_0 ?_
      refine ra_lald E (lmL (by decide)) rfl dL_law_1518 ?_
      refine ra_iload E dL_law_1519 0 rfl ?_
      refine ra_i2l E dL_law_1521 rfl ?_
      refine ra_lcmp E dL_law_1522 ?_
      refine ra_if_eq (tgt := 1528) E dL_law_1523 (by decide) (fun q9 => ?_) (fun q9 => ?_)
      · replace h := h.1 q9
        refine ra_goto (tgt := 3273) E dL_law_1528 (by decide) ?_
        exact ra_sub (L' := [(4, _), (3, _), (2, _), (1, _), (0, _)]) [2, 3, 4, 5, 6] rfl (ra_widen (k := cells + 16) (n := slots + 96) (by omega) (by omega) (hK _ h))
      · replace h := h.2 q9
        refine ra_iconst E dL_law_1526 ki_0 ?_
        exact h.elim
  · replace h := h.2 q7
    refine ra_iconst E dL_law_1509 ki_0 ?_
    exact h.elim
def f_law_26 (xs : Nat → Int32) (i : Int32) (M : TM) (K : TM → Prop) : Prop := f_L_bowls (xs (i + (1 : Int32)).toNatClampNeg) M (fun r2 M1 => f_X13_bowls (xs (i + (1 : Int32)).toNatClampNeg) M1 (fun r4 M3 => f_X13_thrown M3 (fun r6 M5 => ((r6 = r2 → ((¬ r2 = 0 → K M5) ∧ (r2 = 0 → (((lg_cmp (M5 710 0).toInt64 r4.toInt64) = 0 → K M5) ∧ (¬ (lg_cmp (M5 710 0).toInt64 r4.toInt64) = 0 → False))))) ∧ (¬ r6 = r2 → False)))))
set_option maxRecDepth 100000 in
set_option maxHeartbeats 4000000 in
theorem l_law_26 {p : Program} {l : Launch} {e : Env} {R : Room} {s : State} {m : MethodId} {args : Array Value} {below : List Frame} {meth : Method} {c : Code} {cells slots : Nat} {Q : State → Prop} {D : va_G} {tc : Nat → ClassId} {ad : Nat → Nat} {b Lx : Nat} {xs : Nat → Int32} {i : Int32} {K : TM → Prop} (E : Ev p s m args meth c D tc ad RL cL_law 9) (hfl : l.stackTraces = false) (hX : va_X b Lx xs s s.heap) (hbl : b < s.heap.size) (hbA : ¬ A0 ad s.heap.size b) (hw0 : vp_in i Lx) (hw1 : vp_in (i + (1 : Int32)) Lx) (hw2 : vp_in (i + (2 : Int32)) Lx) (hw3 : vp_in (i + (3 : Int32)) Lx) (hw4 : vp_in (i + (4 : Int32)) Lx) (hw5 : vp_in (i + (5 : Int32)) Lx) (hRm : 40 ≤ R.frames ∧ 1640 ≤ R.locals) (hcl : cells + 16 ≤ R.cells ∧ slots + 96 ≤ R.slots) (hK : ∀ M', K M' → Wa p l e R s m args below meth c (cells + 16) (slots + 96) Q D tc ad 9 M' 3273 [(4, .int i), (3, .ref (ad 710)), (2, .ref (ad 699)), (1, .ref (ad 0)), (0, .ref b)] []) (M : TM) (h : f_law_26 xs i M K) : Wa p l e R s m args below meth c cells slots Q D tc ad 9 M 1531 [(4, .int i), (3, .ref (ad 710)), (2, .ref (ad 699)), (1, .ref (ad 0)), (0, .ref b)] [] := by
  unfold f_law_26 at h
  refine ra_aload_n E dL_law_1531 rfl 3 rfl ?_
  refine ra_aload_n E dL_law_1532 rfl 4 rfl ?_
  refine ra_iload E dL_law_1533 0 rfl ?_
  refine ra_iconst E dL_law_1535 ki_1 ?_
  refine ra_iadd E dL_law_1536 ?_
  refine ra_sld E hX hbl hbA hw1 dL_law_1537 ?_
  refine ra_aload_n E dL_law_1538 rfl 1 rfl ?_
  refine rx_callW (rest := []) E hfl (c_L_bowls _ _ _ h) lq_L ctw_L_bowls ml_L_252 (by decide) rfl rfl (Nat.le_of_ble_eq_true rfl) ⟨by omega, by omega⟩ ⟨by omega, by omega⟩ dL_law_1539 (fun r2 M1 h => ?_)
  refine ra_istore (L' := [(5, _), (4, _), (3, _), (2, _), (1, _), (0, _)]) E dL_law_1542 (by decide) rfl ?_
  refine ra_aload_n E dL_law_1544 rfl 3 rfl ?_
  refine ra_aload_n E dL_law_1545 rfl 5 rfl ?_
  refine ra_iload E dL_law_1546 1 rfl ?_
  refine ra_iconst E dL_law_1548 ki_1 ?_
  refine ra_iadd E dL_law_1549 ?_
  refine ra_sld E hX hbl hbA hw1 dL_law_1550 ?_
  refine ra_callIV (rest := []) E (c_X13_bowls _ _ _ h) lq_13L cv_X13_bowls ml_L_254 (by decide) (lmL (k := 699) (by decide)) (fun R => ⟨_, cel_699 tc ad R⟩) rfl rfl rfl (Nat.le_of_ble_eq_true rfl) ⟨by omega, by omega⟩ ⟨by omega, by omega⟩ dL_law_1551 (fun r4 M3 h => ?_)
  refine ra_istore (L' := [(6, _), (5, _), (4, _), (3, _), (2, _), (1, _), (0, _)]) E dL_law_1554 (by decide) rfl ?_
  refine ra_aload_n E dL_law_1556 rfl 4 rfl ?_
  refine ra_callIV (rest := []) E (c_X13_thrown _ _ h) lq_13L cv_X13_thrown ml_L_170 (by decide) (lmL (k := 699) (by decide)) (fun R => ⟨_, cel_699 tc ad R⟩) rfl rfl rfl (Nat.le_of_ble_eq_true rfl) ⟨by omega, by omega⟩ ⟨by omega, by omega⟩ dL_law_1557 (fun r6 M5 h => ?_)
  refine ra_iload E dL_law_1560 1 rfl ?_
  refine ra_icmp_eq (tgt := 1567) E dL_law_1562 (by decide) (fun q7 => ?_) (fun q7 => ?_)
  · replace h := h.1 q7
    refine ra_iload E dL_law_1567 1 rfl ?_
    refine ra_if_ne (tgt := 1584) E dL_law_1569 (by decide) (fun q8 => ?_) (fun q8 => ?_)
    · replace h := h.1 q8
      refine ra_goto (tgt := 3273) E dL_law_1584 (by decide) ?_
      exact ra_sub (L' := [(4, _), (3, _), (2, _), (1, _), (0, _)]) [2, 3, 4, 5, 6] rfl (ra_widen (k := cells + 16) (n := slots + 96) (by omega) (by omega) (hK _ h))
    · replace h := h.2 q8
      refine ra_aload_n E dL_law_1572 rfl 3 rfl ?_
      refine ra_iconst E dL_law_1573 ki_0 ?_
      refine ra_lald E (lmL (by decide)) rfl dL_law_1574 ?_
      refine ra_iload E dL_law_1575 0 rfl ?_
      refine ra_i2l E dL_law_1577 rfl ?_
      refine ra_lcmp E dL_law_1578 ?_
      refine ra_if_eq (tgt := 1584) E dL_law_1579 (by decide) (fun q9 => ?_) (fun q9 => ?_)
      · replace h := h.1 q9
        refine ra_goto (tgt := 3273) E dL_law_1584 (by decide) ?_
        exact ra_sub (L' := [(4, _), (3, _), (2, _), (1, _), (0, _)]) [2, 3, 4, 5, 6] rfl (ra_widen (k := cells + 16) (n := slots + 96) (by omega) (by omega) (hK _ h))
      · replace h := h.2 q9
        refine ra_iconst E dL_law_1582 ki_0 ?_
        exact h.elim
  · replace h := h.2 q7
    refine ra_iconst E dL_law_1565 ki_0 ?_
    exact h.elim
def f_law_27 (xs : Nat → Int32) (i : Int32) (M : TM) (K : TM → Prop) : Prop := f_L_pullsLeft (xs (i + (1 : Int32)).toNatClampNeg) M (fun r2 M1 => f_X13_pullsLeft (xs (i + (1 : Int32)).toNatClampNeg) M1 (fun r4 M3 => f_X13_thrown M3 (fun r6 M5 => ((r6 = r2 → ((¬ r2 = 0 → K M5) ∧ (r2 = 0 → (((lg_cmp (M5 710 0).toInt64 r4.toInt64) = 0 → K M5) ∧ (¬ (lg_cmp (M5 710 0).toInt64 r4.toInt64) = 0 → False))))) ∧ (¬ r6 = r2 → False)))))
set_option maxRecDepth 100000 in
set_option maxHeartbeats 4000000 in
theorem l_law_27 {p : Program} {l : Launch} {e : Env} {R : Room} {s : State} {m : MethodId} {args : Array Value} {below : List Frame} {meth : Method} {c : Code} {cells slots : Nat} {Q : State → Prop} {D : va_G} {tc : Nat → ClassId} {ad : Nat → Nat} {b Lx : Nat} {xs : Nat → Int32} {i : Int32} {K : TM → Prop} (E : Ev p s m args meth c D tc ad RL cL_law 9) (hfl : l.stackTraces = false) (hX : va_X b Lx xs s s.heap) (hbl : b < s.heap.size) (hbA : ¬ A0 ad s.heap.size b) (hw0 : vp_in i Lx) (hw1 : vp_in (i + (1 : Int32)) Lx) (hw2 : vp_in (i + (2 : Int32)) Lx) (hw3 : vp_in (i + (3 : Int32)) Lx) (hw4 : vp_in (i + (4 : Int32)) Lx) (hw5 : vp_in (i + (5 : Int32)) Lx) (hRm : 40 ≤ R.frames ∧ 1640 ≤ R.locals) (hcl : cells + 16 ≤ R.cells ∧ slots + 96 ≤ R.slots) (hK : ∀ M', K M' → Wa p l e R s m args below meth c (cells + 16) (slots + 96) Q D tc ad 9 M' 3273 [(4, .int i), (3, .ref (ad 710)), (2, .ref (ad 699)), (1, .ref (ad 0)), (0, .ref b)] []) (M : TM) (h : f_law_27 xs i M K) : Wa p l e R s m args below meth c cells slots Q D tc ad 9 M 1587 [(4, .int i), (3, .ref (ad 710)), (2, .ref (ad 699)), (1, .ref (ad 0)), (0, .ref b)] [] := by
  unfold f_law_27 at h
  refine ra_aload_n E dL_law_1587 rfl 3 rfl ?_
  refine ra_aload_n E dL_law_1588 rfl 4 rfl ?_
  refine ra_iload E dL_law_1589 0 rfl ?_
  refine ra_iconst E dL_law_1591 ki_1 ?_
  refine ra_iadd E dL_law_1592 ?_
  refine ra_sld E hX hbl hbA hw1 dL_law_1593 ?_
  refine ra_aload_n E dL_law_1594 rfl 1 rfl ?_
  refine rx_callW (rest := []) E hfl (c_L_pullsLeft _ _ _ h) lq_L ctw_L_pullsLeft ml_L_255 (by decide) rfl rfl (Nat.le_of_ble_eq_true rfl) ⟨by omega, by omega⟩ ⟨by omega, by omega⟩ dL_law_1595 (fun r2 M1 h => ?_)
  refine ra_istore (L' := [(5, _), (4, _), (3, _), (2, _), (1, _), (0, _)]) E dL_law_1598 (by decide) rfl ?_
  refine ra_aload_n E dL_law_1600 rfl 3 rfl ?_
  refine ra_aload_n E dL_law_1601 rfl 5 rfl ?_
  refine ra_iload E dL_law_1602 1 rfl ?_
  refine ra_iconst E dL_law_1604 ki_1 ?_
  refine ra_iadd E dL_law_1605 ?_
  refine ra_sld E hX hbl hbA hw1 dL_law_1606 ?_
  refine ra_callIV (rest := []) E (c_X13_pullsLeft _ _ _ h) lq_13L cv_X13_pullsLeft ml_L_257 (by decide) (lmL (k := 699) (by decide)) (fun R => ⟨_, cel_699 tc ad R⟩) rfl rfl rfl (Nat.le_of_ble_eq_true rfl) ⟨by omega, by omega⟩ ⟨by omega, by omega⟩ dL_law_1607 (fun r4 M3 h => ?_)
  refine ra_istore (L' := [(6, _), (5, _), (4, _), (3, _), (2, _), (1, _), (0, _)]) E dL_law_1610 (by decide) rfl ?_
  refine ra_aload_n E dL_law_1612 rfl 4 rfl ?_
  refine ra_callIV (rest := []) E (c_X13_thrown _ _ h) lq_13L cv_X13_thrown ml_L_170 (by decide) (lmL (k := 699) (by decide)) (fun R => ⟨_, cel_699 tc ad R⟩) rfl rfl rfl (Nat.le_of_ble_eq_true rfl) ⟨by omega, by omega⟩ ⟨by omega, by omega⟩ dL_law_1613 (fun r6 M5 h => ?_)
  refine ra_iload E dL_law_1616 1 rfl ?_
  refine ra_icmp_eq (tgt := 1623) E dL_law_1618 (by decide) (fun q7 => ?_) (fun q7 => ?_)
  · replace h := h.1 q7
    refine ra_iload E dL_law_1623 1 rfl ?_
    refine ra_if_ne (tgt := 1640) E dL_law_1625 (by decide) (fun q8 => ?_) (fun q8 => ?_)
    · replace h := h.1 q8
      refine ra_goto (tgt := 3273) E dL_law_1640 (by decide) ?_
      exact ra_sub (L' := [(4, _), (3, _), (2, _), (1, _), (0, _)]) [2, 3, 4, 5, 6] rfl (ra_widen (k := cells + 16) (n := slots + 96) (by omega) (by omega) (hK _ h))
    · replace h := h.2 q8
      refine ra_aload_n E dL_law_1628 rfl 3 rfl ?_
      refine ra_iconst E dL_law_1629 ki_0 ?_
      refine ra_lald E (lmL (by decide)) rfl dL_law_1630 ?_
      refine ra_iload E dL_law_1631 0 rfl ?_
      refine ra_i2l E dL_law_1633 rfl ?_
      refine ra_lcmp E dL_law_1634 ?_
      refine ra_if_eq (tgt := 1640) E dL_law_1635 (by decide) (fun q9 => ?_) (fun q9 => ?_)
      · replace h := h.1 q9
        refine ra_goto (tgt := 3273) E dL_law_1640 (by decide) ?_
        exact ra_sub (L' := [(4, _), (3, _), (2, _), (1, _), (0, _)]) [2, 3, 4, 5, 6] rfl (ra_widen (k := cells + 16) (n := slots + 96) (by omega) (by omega) (hK _ h))
      · replace h := h.2 q9
        refine ra_iconst E dL_law_1638 ki_0 ?_
        exact h.elim
  · replace h := h.2 q7
    refine ra_iconst E dL_law_1621 ki_0 ?_
    exact h.elim
def f_law_28 (xs : Nat → Int32) (i : Int32) (M : TM) (K : TM → Prop) : Prop := f_L_deadline (xs (i + (1 : Int32)).toNatClampNeg) M (fun r2 M1 => f_X13_deadline (xs (i + (1 : Int32)).toNatClampNeg) M1 (fun r4 M3 => f_X13_thrown M3 (fun r6 M5 => ((r6 = r2 → ((¬ r2 = 0 → K M5) ∧ (r2 = 0 → (((lg_cmp (M5 710 0).toInt64 r4.toInt64) = 0 → K M5) ∧ (¬ (lg_cmp (M5 710 0).toInt64 r4.toInt64) = 0 → False))))) ∧ (¬ r6 = r2 → False)))))
set_option maxRecDepth 100000 in
set_option maxHeartbeats 4000000 in
theorem l_law_28 {p : Program} {l : Launch} {e : Env} {R : Room} {s : State} {m : MethodId} {args : Array Value} {below : List Frame} {meth : Method} {c : Code} {cells slots : Nat} {Q : State → Prop} {D : va_G} {tc : Nat → ClassId} {ad : Nat → Nat} {b Lx : Nat} {xs : Nat → Int32} {i : Int32} {K : TM → Prop} (E : Ev p s m args meth c D tc ad RL cL_law 9) (hfl : l.stackTraces = false) (hX : va_X b Lx xs s s.heap) (hbl : b < s.heap.size) (hbA : ¬ A0 ad s.heap.size b) (hw0 : vp_in i Lx) (hw1 : vp_in (i + (1 : Int32)) Lx) (hw2 : vp_in (i + (2 : Int32)) Lx) (hw3 : vp_in (i + (3 : Int32)) Lx) (hw4 : vp_in (i + (4 : Int32)) Lx) (hw5 : vp_in (i + (5 : Int32)) Lx) (hRm : 40 ≤ R.frames ∧ 1640 ≤ R.locals) (hcl : cells + 16 ≤ R.cells ∧ slots + 96 ≤ R.slots) (hK : ∀ M', K M' → Wa p l e R s m args below meth c (cells + 16) (slots + 96) Q D tc ad 9 M' 3273 [(4, .int i), (3, .ref (ad 710)), (2, .ref (ad 699)), (1, .ref (ad 0)), (0, .ref b)] []) (M : TM) (h : f_law_28 xs i M K) : Wa p l e R s m args below meth c cells slots Q D tc ad 9 M 1643 [(4, .int i), (3, .ref (ad 710)), (2, .ref (ad 699)), (1, .ref (ad 0)), (0, .ref b)] [] := by
  unfold f_law_28 at h
  refine ra_aload_n E dL_law_1643 rfl 3 rfl ?_
  refine ra_aload_n E dL_law_1644 rfl 4 rfl ?_
  refine ra_iload E dL_law_1645 0 rfl ?_
  refine ra_iconst E dL_law_1647 ki_1 ?_
  refine ra_iadd E dL_law_1648 ?_
  refine ra_sld E hX hbl hbA hw1 dL_law_1649 ?_
  refine ra_aload_n E dL_law_1650 rfl 1 rfl ?_
  refine rx_callW (rest := []) E hfl (c_L_deadline _ _ _ h) lq_L ctw_L_deadline ml_L_258 (by decide) rfl rfl (Nat.le_of_ble_eq_true rfl) ⟨by omega, by omega⟩ ⟨by omega, by omega⟩ dL_law_1651 (fun r2 M1 h => ?_)
  refine ra_istore (L' := [(5, _), (4, _), (3, _), (2, _), (1, _), (0, _)]) E dL_law_1654 (by decide) rfl ?_
  refine ra_aload_n E dL_law_1656 rfl 3 rfl ?_
  refine ra_aload_n E dL_law_1657 rfl 5 rfl ?_
  refine ra_iload E dL_law_1658 1 rfl ?_
  refine ra_iconst E dL_law_1660 ki_1 ?_
  refine ra_iadd E dL_law_1661 ?_
  refine ra_sld E hX hbl hbA hw1 dL_law_1662 ?_
  refine ra_callIV (rest := []) E (c_X13_deadline _ _ _ h) lq_13L cv_X13_deadline ml_L_260 (by decide) (lmL (k := 699) (by decide)) (fun R => ⟨_, cel_699 tc ad R⟩) rfl rfl rfl (Nat.le_of_ble_eq_true rfl) ⟨by omega, by omega⟩ ⟨by omega, by omega⟩ dL_law_1663 (fun r4 M3 h => ?_)
  refine ra_istore (L' := [(6, _), (5, _), (4, _), (3, _), (2, _), (1, _), (0, _)]) E dL_law_1666 (by decide) rfl ?_
  refine ra_aload_n E dL_law_1668 rfl 4 rfl ?_
  refine ra_callIV (rest := []) E (c_X13_thrown _ _ h) lq_13L cv_X13_thrown ml_L_170 (by decide) (lmL (k := 699) (by decide)) (fun R => ⟨_, cel_699 tc ad R⟩) rfl rfl rfl (Nat.le_of_ble_eq_true rfl) ⟨by omega, by omega⟩ ⟨by omega, by omega⟩ dL_law_1669 (fun r6 M5 h => ?_)
  refine ra_iload E dL_law_1672 1 rfl ?_
  refine ra_icmp_eq (tgt := 1679) E dL_law_1674 (by decide) (fun q7 => ?_) (fun q7 => ?_)
  · replace h := h.1 q7
    refine ra_iload E dL_law_1679 1 rfl ?_
    refine ra_if_ne (tgt := 1696) E dL_law_1681 (by decide) (fun q8 => ?_) (fun q8 => ?_)
    · replace h := h.1 q8
      refine ra_goto (tgt := 3273) E dL_law_1696 (by decide) ?_
      exact ra_sub (L' := [(4, _), (3, _), (2, _), (1, _), (0, _)]) [2, 3, 4, 5, 6] rfl (ra_widen (k := cells + 16) (n := slots + 96) (by omega) (by omega) (hK _ h))
    · replace h := h.2 q8
      refine ra_aload_n E dL_law_1684 rfl 3 rfl ?_
      refine ra_iconst E dL_law_1685 ki_0 ?_
      refine ra_lald E (lmL (by decide)) rfl dL_law_1686 ?_
      refine ra_iload E dL_law_1687 0 rfl ?_
      refine ra_i2l E dL_law_1689 rfl ?_
      refine ra_lcmp E dL_law_1690 ?_
      refine ra_if_eq (tgt := 1696) E dL_law_1691 (by decide) (fun q9 => ?_) (fun q9 => ?_)
      · replace h := h.1 q9
        refine ra_goto (tgt := 3273) E dL_law_1696 (by decide) ?_
        exact ra_sub (L' := [(4, _), (3, _), (2, _), (1, _), (0, _)]) [2, 3, 4, 5, 6] rfl (ra_widen (k := cells + 16) (n := slots + 96) (by omega) (by omega) (hK _ h))
      · replace h := h.2 q9
        refine ra_iconst E dL_law_1694 ki_0 ?_
        exact h.elim
  · replace h := h.2 q7
    refine ra_iconst E dL_law_1677 ki_0 ?_
    exact h.elim
def f_law_29 (xs : Nat → Int32) (i : Int32) (M : TM) (K : TM → Prop) : Prop := f_L_price (xs (i + (1 : Int32)).toNatClampNeg) M (fun r2 M1 => f_X13_price (xs (i + (1 : Int32)).toNatClampNeg) M1 (fun r4 M3 => f_X13_thrown M3 (fun r6 M5 => ((r6 = r2 → ((¬ r2 = 0 → K M5) ∧ (r2 = 0 → (((lg_cmp (M5 710 0).toInt64 r4.toInt64) = 0 → K M5) ∧ (¬ (lg_cmp (M5 710 0).toInt64 r4.toInt64) = 0 → False))))) ∧ (¬ r6 = r2 → False)))))
set_option maxRecDepth 100000 in
set_option maxHeartbeats 4000000 in
theorem l_law_29 {p : Program} {l : Launch} {e : Env} {R : Room} {s : State} {m : MethodId} {args : Array Value} {below : List Frame} {meth : Method} {c : Code} {cells slots : Nat} {Q : State → Prop} {D : va_G} {tc : Nat → ClassId} {ad : Nat → Nat} {b Lx : Nat} {xs : Nat → Int32} {i : Int32} {K : TM → Prop} (E : Ev p s m args meth c D tc ad RL cL_law 9) (hfl : l.stackTraces = false) (hX : va_X b Lx xs s s.heap) (hbl : b < s.heap.size) (hbA : ¬ A0 ad s.heap.size b) (hw0 : vp_in i Lx) (hw1 : vp_in (i + (1 : Int32)) Lx) (hw2 : vp_in (i + (2 : Int32)) Lx) (hw3 : vp_in (i + (3 : Int32)) Lx) (hw4 : vp_in (i + (4 : Int32)) Lx) (hw5 : vp_in (i + (5 : Int32)) Lx) (hRm : 40 ≤ R.frames ∧ 1640 ≤ R.locals) (hcl : cells + 16 ≤ R.cells ∧ slots + 96 ≤ R.slots) (hK : ∀ M', K M' → Wa p l e R s m args below meth c (cells + 16) (slots + 96) Q D tc ad 9 M' 3273 [(4, .int i), (3, .ref (ad 710)), (2, .ref (ad 699)), (1, .ref (ad 0)), (0, .ref b)] []) (M : TM) (h : f_law_29 xs i M K) : Wa p l e R s m args below meth c cells slots Q D tc ad 9 M 1699 [(4, .int i), (3, .ref (ad 710)), (2, .ref (ad 699)), (1, .ref (ad 0)), (0, .ref b)] [] := by
  unfold f_law_29 at h
  refine ra_aload_n E dL_law_1699 rfl 3 rfl ?_
  refine ra_aload_n E dL_law_1700 rfl 4 rfl ?_
  refine ra_iload E dL_law_1701 0 rfl ?_
  refine ra_iconst E dL_law_1703 ki_1 ?_
  refine ra_iadd E dL_law_1704 ?_
  refine ra_sld E hX hbl hbA hw1 dL_law_1705 ?_
  refine ra_aload_n E dL_law_1706 rfl 1 rfl ?_
  refine rx_callW (rest := []) E hfl (c_L_price _ _ _ h) lq_L ctw_L_price ml_L_261 (by decide) rfl rfl (Nat.le_of_ble_eq_true rfl) ⟨by omega, by omega⟩ ⟨by omega, by omega⟩ dL_law_1707 (fun r2 M1 h => ?_)
  refine ra_istore (L' := [(5, _), (4, _), (3, _), (2, _), (1, _), (0, _)]) E dL_law_1710 (by decide) rfl ?_
  refine ra_aload_n E dL_law_1712 rfl 3 rfl ?_
  refine ra_aload_n E dL_law_1713 rfl 5 rfl ?_
  refine ra_iload E dL_law_1714 1 rfl ?_
  refine ra_iconst E dL_law_1716 ki_1 ?_
  refine ra_iadd E dL_law_1717 ?_
  refine ra_sld E hX hbl hbA hw1 dL_law_1718 ?_
  refine ra_callIV (rest := []) E (c_X13_price _ _ _ h) lq_13L cv_X13_price ml_L_263 (by decide) (lmL (k := 699) (by decide)) (fun R => ⟨_, cel_699 tc ad R⟩) rfl rfl rfl (Nat.le_of_ble_eq_true rfl) ⟨by omega, by omega⟩ ⟨by omega, by omega⟩ dL_law_1719 (fun r4 M3 h => ?_)
  refine ra_istore (L' := [(6, _), (5, _), (4, _), (3, _), (2, _), (1, _), (0, _)]) E dL_law_1722 (by decide) rfl ?_
  refine ra_aload_n E dL_law_1724 rfl 4 rfl ?_
  refine ra_callIV (rest := []) E (c_X13_thrown _ _ h) lq_13L cv_X13_thrown ml_L_170 (by decide) (lmL (k := 699) (by decide)) (fun R => ⟨_, cel_699 tc ad R⟩) rfl rfl rfl (Nat.le_of_ble_eq_true rfl) ⟨by omega, by omega⟩ ⟨by omega, by omega⟩ dL_law_1725 (fun r6 M5 h => ?_)
  refine ra_iload E dL_law_1728 1 rfl ?_
  refine ra_icmp_eq (tgt := 1735) E dL_law_1730 (by decide) (fun q7 => ?_) (fun q7 => ?_)
  · replace h := h.1 q7
    refine ra_iload E dL_law_1735 1 rfl ?_
    refine ra_if_ne (tgt := 1752) E dL_law_1737 (by decide) (fun q8 => ?_) (fun q8 => ?_)
    · replace h := h.1 q8
      refine ra_goto (tgt := 3273) E dL_law_1752 (by decide) ?_
      exact ra_sub (L' := [(4, _), (3, _), (2, _), (1, _), (0, _)]) [2, 3, 4, 5, 6] rfl (ra_widen (k := cells + 16) (n := slots + 96) (by omega) (by omega) (hK _ h))
    · replace h := h.2 q8
      refine ra_aload_n E dL_law_1740 rfl 3 rfl ?_
      refine ra_iconst E dL_law_1741 ki_0 ?_
      refine ra_lald E (lmL (by decide)) rfl dL_law_1742 ?_
      refine ra_iload E dL_law_1743 0 rfl ?_
      refine ra_i2l E dL_law_1745 rfl ?_
      refine ra_lcmp E dL_law_1746 ?_
      refine ra_if_eq (tgt := 1752) E dL_law_1747 (by decide) (fun q9 => ?_) (fun q9 => ?_)
      · replace h := h.1 q9
        refine ra_goto (tgt := 3273) E dL_law_1752 (by decide) ?_
        exact ra_sub (L' := [(4, _), (3, _), (2, _), (1, _), (0, _)]) [2, 3, 4, 5, 6] rfl (ra_widen (k := cells + 16) (n := slots + 96) (by omega) (by omega) (hK _ h))
      · replace h := h.2 q9
        refine ra_iconst E dL_law_1750 ki_0 ?_
        exact h.elim
  · replace h := h.2 q7
    refine ra_iconst E dL_law_1733 ki_0 ?_
    exact h.elim
def f_law_30 (xs : Nat → Int32) (i : Int32) (M : TM) (K : TM → Prop) : Prop := f_L_bargeOf (xs (i + (1 : Int32)).toNatClampNeg) M (fun r2 M1 => f_X13_bargeOf (xs (i + (1 : Int32)).toNatClampNeg) M1 (fun r4 M3 => f_X13_thrown M3 (fun r6 M5 => ((r6 = r2 → ((¬ r2 = 0 → K M5) ∧ (r2 = 0 → (((lg_cmp (M5 710 0).toInt64 r4.toInt64) = 0 → K M5) ∧ (¬ (lg_cmp (M5 710 0).toInt64 r4.toInt64) = 0 → False))))) ∧ (¬ r6 = r2 → False)))))
set_option maxRecDepth 100000 in
set_option maxHeartbeats 4000000 in
theorem l_law_30 {p : Program} {l : Launch} {e : Env} {R : Room} {s : State} {m : MethodId} {args : Array Value} {below : List Frame} {meth : Method} {c : Code} {cells slots : Nat} {Q : State → Prop} {D : va_G} {tc : Nat → ClassId} {ad : Nat → Nat} {b Lx : Nat} {xs : Nat → Int32} {i : Int32} {K : TM → Prop} (E : Ev p s m args meth c D tc ad RL cL_law 9) (hfl : l.stackTraces = false) (hX : va_X b Lx xs s s.heap) (hbl : b < s.heap.size) (hbA : ¬ A0 ad s.heap.size b) (hw0 : vp_in i Lx) (hw1 : vp_in (i + (1 : Int32)) Lx) (hw2 : vp_in (i + (2 : Int32)) Lx) (hw3 : vp_in (i + (3 : Int32)) Lx) (hw4 : vp_in (i + (4 : Int32)) Lx) (hw5 : vp_in (i + (5 : Int32)) Lx) (hRm : 40 ≤ R.frames ∧ 1640 ≤ R.locals) (hcl : cells + 16 ≤ R.cells ∧ slots + 96 ≤ R.slots) (hK : ∀ M', K M' → Wa p l e R s m args below meth c (cells + 16) (slots + 96) Q D tc ad 9 M' 3273 [(4, .int i), (3, .ref (ad 710)), (2, .ref (ad 699)), (1, .ref (ad 0)), (0, .ref b)] []) (M : TM) (h : f_law_30 xs i M K) : Wa p l e R s m args below meth c cells slots Q D tc ad 9 M 1755 [(4, .int i), (3, .ref (ad 710)), (2, .ref (ad 699)), (1, .ref (ad 0)), (0, .ref b)] [] := by
  unfold f_law_30 at h
  refine ra_aload_n E dL_law_1755 rfl 3 rfl ?_
  refine ra_aload_n E dL_law_1756 rfl 4 rfl ?_
  refine ra_iload E dL_law_1757 0 rfl ?_
  refine ra_iconst E dL_law_1759 ki_1 ?_
  refine ra_iadd E dL_law_1760 ?_
  refine ra_sld E hX hbl hbA hw1 dL_law_1761 ?_
  refine ra_aload_n E dL_law_1762 rfl 1 rfl ?_
  refine rx_callW (rest := []) E hfl (c_L_bargeOf _ _ _ h) lq_L ctw_L_bargeOf ml_L_264 (by decide) rfl rfl (Nat.le_of_ble_eq_true rfl) ⟨by omega, by omega⟩ ⟨by omega, by omega⟩ dL_law_1763 (fun r2 M1 h => ?_)
  refine ra_istore (L' := [(5, _), (4, _), (3, _), (2, _), (1, _), (0, _)]) E dL_law_1766 (by decide) rfl ?_
  refine ra_aload_n E dL_law_1768 rfl 3 rfl ?_
  refine ra_aload_n E dL_law_1769 rfl 5 rfl ?_
  refine ra_iload E dL_law_1770 1 rfl ?_
  refine ra_iconst E dL_law_1772 ki_1 ?_
  refine ra_iadd E dL_law_1773 ?_
  refine ra_sld E hX hbl hbA hw1 dL_law_1774 ?_
  refine ra_callIV (rest := []) E (c_X13_bargeOf _ _ _ h) lq_13L cv_X13_bargeOf ml_L_266 (by decide) (lmL (k := 699) (by decide)) (fun R => ⟨_, cel_699 tc ad R⟩) rfl rfl rfl (Nat.le_of_ble_eq_true rfl) ⟨by omega, by omega⟩ ⟨by omega, by omega⟩ dL_law_1775 (fun r4 M3 h => ?_)
  refine ra_istore (L' := [(6, _), (5, _), (4, _), (3, _), (2, _), (1, _), (0, _)]) E dL_law_1778 (by decide) rfl ?_
  refine ra_aload_n E dL_law_1780 rfl 4 rfl ?_
  refine ra_callIV (rest := []) E (c_X13_thrown _ _ h) lq_13L cv_X13_thrown ml_L_170 (by decide) (lmL (k := 699) (by decide)) (fun R => ⟨_, cel_699 tc ad R⟩) rfl rfl rfl (Nat.le_of_ble_eq_true rfl) ⟨by omega, by omega⟩ ⟨by omega, by omega⟩ dL_law_1781 (fun r6 M5 h => ?_)
  refine ra_iload E dL_law_1784 1 rfl ?_
  refine ra_icmp_eq (tgt := 1791) E dL_law_1786 (by decide) (fun q7 => ?_) (fun q7 => ?_)
  · replace h := h.1 q7
    refine ra_iload E dL_law_1791 1 rfl ?_
    refine ra_if_ne (tgt := 1808) E dL_law_1793 (by decide) (fun q8 => ?_) (fun q8 => ?_)
    · replace h := h.1 q8
      refine ra_goto (tgt := 3273) E dL_law_1808 (by decide) ?_
      exact ra_sub (L' := [(4, _), (3, _), (2, _), (1, _), (0, _)]) [2, 3, 4, 5, 6] rfl (ra_widen (k := cells + 16) (n := slots + 96) (by omega) (by omega) (hK _ h))
    · replace h := h.2 q8
      refine ra_aload_n E dL_law_1796 rfl 3 rfl ?_
      refine ra_iconst E dL_law_1797 ki_0 ?_
      refine ra_lald E (lmL (by decide)) rfl dL_law_1798 ?_
      refine ra_iload E dL_law_1799 0 rfl ?_
      refine ra_i2l E dL_law_1801 rfl ?_
      refine ra_lcmp E dL_law_1802 ?_
      refine ra_if_eq (tgt := 1808) E dL_law_1803 (by decide) (fun q9 => ?_) (fun q9 => ?_)
      · replace h := h.1 q9
        refine ra_goto (tgt := 3273) E dL_law_1808 (by decide) ?_
        exact ra_sub (L' := [(4, _), (3, _), (2, _), (1, _), (0, _)]) [2, 3, 4, 5, 6] rfl (ra_widen (k := cells + 16) (n := slots + 96) (by omega) (by omega) (hK _ h))
      · replace h := h.2 q9
        refine ra_iconst E dL_law_1806 ki_0 ?_
        exact h.elim
  · replace h := h.2 q7
    refine ra_iconst E dL_law_1789 ki_0 ?_
    exact h.elim
def f_law_31 (xs : Nat → Int32) (i : Int32) (M : TM) (K : TM → Prop) : Prop := f_L_isOpen (xs (i + (1 : Int32)).toNatClampNeg) M (fun r2 M1 => f_X13_isOpen (xs (i + (1 : Int32)).toNatClampNeg) M1 (fun r4 M3 => f_X13_thrown M3 (fun r7 M6 => ((r7 = r2 → ((¬ r2 = 0 → K M6) ∧ (r2 = 0 → ((r4 = 0 → (((lg_cmp (M6 710 0).toInt64 (0 : Int32).toInt64) = 0 → K M6) ∧ (¬ (lg_cmp (M6 710 0).toInt64 (0 : Int32).toInt64) = 0 → False))) ∧ (¬ r4 = 0 → (((lg_cmp (M6 710 0).toInt64 (1 : Int32).toInt64) = 0 → K M6) ∧ (¬ (lg_cmp (M6 710 0).toInt64 (1 : Int32).toInt64) = 0 → False))))))) ∧ (¬ r7 = r2 → False)))))
set_option maxRecDepth 100000 in
set_option maxHeartbeats 4000000 in
theorem l_law_31 {p : Program} {l : Launch} {e : Env} {R : Room} {s : State} {m : MethodId} {args : Array Value} {below : List Frame} {meth : Method} {c : Code} {cells slots : Nat} {Q : State → Prop} {D : va_G} {tc : Nat → ClassId} {ad : Nat → Nat} {b Lx : Nat} {xs : Nat → Int32} {i : Int32} {K : TM → Prop} (E : Ev p s m args meth c D tc ad RL cL_law 9) (hfl : l.stackTraces = false) (hX : va_X b Lx xs s s.heap) (hbl : b < s.heap.size) (hbA : ¬ A0 ad s.heap.size b) (hw0 : vp_in i Lx) (hw1 : vp_in (i + (1 : Int32)) Lx) (hw2 : vp_in (i + (2 : Int32)) Lx) (hw3 : vp_in (i + (3 : Int32)) Lx) (hw4 : vp_in (i + (4 : Int32)) Lx) (hw5 : vp_in (i + (5 : Int32)) Lx) (hRm : 40 ≤ R.frames ∧ 1640 ≤ R.locals) (hcl : cells + 16 ≤ R.cells ∧ slots + 96 ≤ R.slots) (hK : ∀ M', K M' → Wa p l e R s m args below meth c (cells + 16) (slots + 96) Q D tc ad 9 M' 3273 [(4, .int i), (3, .ref (ad 710)), (2, .ref (ad 699)), (1, .ref (ad 0)), (0, .ref b)] []) (M : TM) (h : f_law_31 xs i M K) : Wa p l e R s m args below meth c cells slots Q D tc ad 9 M 1811 [(4, .int i), (3, .ref (ad 710)), (2, .ref (ad 699)), (1, .ref (ad 0)), (0, .ref b)] [] := by
  unfold f_law_31 at h
  refine ra_aload_n E dL_law_1811 rfl 3 rfl ?_
  refine ra_aload_n E dL_law_1812 rfl 4 rfl ?_
  refine ra_iload E dL_law_1813 0 rfl ?_
  refine ra_iconst E dL_law_1815 ki_1 ?_
  refine ra_iadd E dL_law_1816 ?_
  refine ra_sld E hX hbl hbA hw1 dL_law_1817 ?_
  refine ra_aload_n E dL_law_1818 rfl 1 rfl ?_
  refine rx_callW (rest := []) E hfl (c_L_isOpen _ _ _ h) lq_L ctw_L_isOpen ml_L_267 (by decide) rfl rfl (Nat.le_of_ble_eq_true rfl) ⟨by omega, by omega⟩ ⟨by omega, by omega⟩ dL_law_1819 (fun r2 M1 h => ?_)
  refine ra_istore (L' := [(5, _), (4, _), (3, _), (2, _), (1, _), (0, _)]) E dL_law_1822 (by decide) rfl ?_
  refine ra_aload_n E dL_law_1824 rfl 3 rfl ?_
  refine ra_aload_n E dL_law_1825 rfl 5 rfl ?_
  refine ra_iload E dL_law_1826 1 rfl ?_
  refine ra_iconst E dL_law_1828 ki_1 ?_
  refine ra_iadd E dL_law_1829 ?_
  refine ra_sld E hX hbl hbA hw1 dL_law_1830 ?_
  refine ra_callIV (rest := []) E (c_X13_isOpen _ _ _ h) lq_13L cv_X13_isOpen ml_L_269 (by decide) (lmL (k := 699) (by decide)) (fun R => ⟨_, cel_699 tc ad R⟩) rfl rfl rfl (Nat.le_of_ble_eq_true rfl) ⟨by omega, by omega⟩ ⟨by omega, by omega⟩ dL_law_1831 (fun r4 M3 h => ?_)
  obtain ⟨b5, h⟩ := h
  refine ra_istore (L' := [(6, _), (5, _), (4, _), (3, _), (2, _), (1, _), (0, _)]) E dL_law_1834 (by decide) rfl ?_
  refine ra_aload_n E dL_law_1836 rfl 4 rfl ?_
  refine ra_callIV (rest := []) E (c_X13_thrown _ _ h) lq_13L cv_X13_thrown ml_L_170 (by decide) (lmL (k := 699) (by decide)) (fun R => ⟨_, cel_699 tc ad R⟩) rfl rfl rfl (Nat.le_of_ble_eq_true rfl) ⟨by omega, by omega⟩ ⟨by omega, by omega⟩ dL_law_1837 (fun r7 M6 h => ?_)
  refine ra_iload E dL_law_1840 1 rfl ?_
  refine ra_icmp_eq (tgt := 1847) E dL_law_1842 (by decide) (fun q8 => ?_) (fun q8 => ?_)
  · replace h := h.1 q8
    refine ra_iload E dL_law_1847 1 rfl ?_
    refine ra_if_ne (tgt := 1871) E dL_law_1849 (by decide) (fun q9 => ?_) (fun q9 => ?_)
    · replace h := h.1 q9
      refine ra_goto (tgt := 3273) E dL_law_1871 (by decide) ?_
      exact ra_sub (L' := [(4, _), (3, _), (2, _), (1, _), (0, _)]) [2, 3, 4, 5, 6] rfl (ra_widen (k := cells + 16) (n := slots + 96) (by omega) (by omega) (hK _ h))
    · replace h := h.2 q9
      refine ra_aload_n E dL_law_1852 rfl 3 rfl ?_
      refine ra_iconst E dL_law_1853 ki_0 ?_
      refine ra_lald E (lmL (by decide)) rfl dL_law_1854 ?_
      refine ra_iload E dL_law_1855 0 rfl ?_
      refine ra_if_eq (tgt := 1864) E dL_law_1857 (by decide) (fun q10 => ?_) (fun q10 => ?_)
      · replace h := h.1 q10
        refine ra_lconst (v := (0 : Int32).toInt64) E dL_law_1864 (by decide +kernel) ?_
        refine ra_lcmp E dL_law_1865 ?_
        refine ra_if_eq (tgt := 1871) E dL_law_1866 (by decide) (fun q11 => ?_) (fun q11 => ?_)
        · replace h := h.1 q11
          refine ra_goto (tgt := 3273) E dL_law_1871 (by decide) ?_
          exact ra_sub (L' := [(4, _), (3, _), (2, _), (1, _), (0, _)]) [2, 3, 4, 5, 6] rfl (ra_widen (k := cells + 16) (n := slots + 96) (by omega) (by omega) (hK _ h))
        · replace h := h.2 q11
          refine ra_iconst E dL_law_1869 ki_0 ?_
          exact h.elim
      · replace h := h.2 q10
        refine ra_lconst (v := (1 : Int32).toInt64) E dL_law_1860 (by decide +kernel) ?_
        refine ra_goto (tgt := 1865) E dL_law_1861 (by decide) ?_
        refine ra_lcmp E dL_law_1865 ?_
        refine ra_if_eq (tgt := 1871) E dL_law_1866 (by decide) (fun q12 => ?_) (fun q12 => ?_)
        · replace h := h.1 q12
          refine ra_goto (tgt := 3273) E dL_law_1871 (by decide) ?_
          exact ra_sub (L' := [(4, _), (3, _), (2, _), (1, _), (0, _)]) [2, 3, 4, 5, 6] rfl (ra_widen (k := cells + 16) (n := slots + 96) (by omega) (by omega) (hK _ h))
        · replace h := h.2 q12
          refine ra_iconst E dL_law_1869 ki_0 ?_
          exact h.elim
  · replace h := h.2 q8
    refine ra_iconst E dL_law_1845 ki_0 ?_
    exact h.elim
def f_law_32 (xs : Nat → Int32) (i : Int32) (M : TM) (K : TM → Prop) : Prop := f_L_isReady (xs (i + (1 : Int32)).toNatClampNeg) M (fun r2 M1 => f_X13_isReady (xs (i + (1 : Int32)).toNatClampNeg) M1 (fun r4 M3 => f_X13_thrown M3 (fun r7 M6 => ((r7 = r2 → ((¬ r2 = 0 → K M6) ∧ (r2 = 0 → ((r4 = 0 → (((lg_cmp (M6 710 0).toInt64 (0 : Int32).toInt64) = 0 → K M6) ∧ (¬ (lg_cmp (M6 710 0).toInt64 (0 : Int32).toInt64) = 0 → False))) ∧ (¬ r4 = 0 → (((lg_cmp (M6 710 0).toInt64 (1 : Int32).toInt64) = 0 → K M6) ∧ (¬ (lg_cmp (M6 710 0).toInt64 (1 : Int32).toInt64) = 0 → False))))))) ∧ (¬ r7 = r2 → False)))))
set_option maxRecDepth 100000 in
set_option maxHeartbeats 4000000 in
theorem l_law_32 {p : Program} {l : Launch} {e : Env} {R : Room} {s : State} {m : MethodId} {args : Array Value} {below : List Frame} {meth : Method} {c : Code} {cells slots : Nat} {Q : State → Prop} {D : va_G} {tc : Nat → ClassId} {ad : Nat → Nat} {b Lx : Nat} {xs : Nat → Int32} {i : Int32} {K : TM → Prop} (E : Ev p s m args meth c D tc ad RL cL_law 9) (hfl : l.stackTraces = false) (hX : va_X b Lx xs s s.heap) (hbl : b < s.heap.size) (hbA : ¬ A0 ad s.heap.size b) (hw0 : vp_in i Lx) (hw1 : vp_in (i + (1 : Int32)) Lx) (hw2 : vp_in (i + (2 : Int32)) Lx) (hw3 : vp_in (i + (3 : Int32)) Lx) (hw4 : vp_in (i + (4 : Int32)) Lx) (hw5 : vp_in (i + (5 : Int32)) Lx) (hRm : 40 ≤ R.frames ∧ 1640 ≤ R.locals) (hcl : cells + 16 ≤ R.cells ∧ slots + 96 ≤ R.slots) (hK : ∀ M', K M' → Wa p l e R s m args below meth c (cells + 16) (slots + 96) Q D tc ad 9 M' 3273 [(4, .int i), (3, .ref (ad 710)), (2, .ref (ad 699)), (1, .ref (ad 0)), (0, .ref b)] []) (M : TM) (h : f_law_32 xs i M K) : Wa p l e R s m args below meth c cells slots Q D tc ad 9 M 1874 [(4, .int i), (3, .ref (ad 710)), (2, .ref (ad 699)), (1, .ref (ad 0)), (0, .ref b)] [] := by
  unfold f_law_32 at h
  refine ra_aload_n E dL_law_1874 rfl 3 rfl ?_
  refine ra_aload_n E dL_law_1875 rfl 4 rfl ?_
  refine ra_iload E dL_law_1876 0 rfl ?_
  refine ra_iconst E dL_law_1878 ki_1 ?_
  refine ra_iadd E dL_law_1879 ?_
  refine ra_sld E hX hbl hbA hw1 dL_law_1880 ?_
  refine ra_aload_n E dL_law_1881 rfl 1 rfl ?_
  refine rx_callW (rest := []) E hfl (c_L_isReady _ _ _ h) lq_L ctw_L_isReady ml_L_270 (by decide) rfl rfl (Nat.le_of_ble_eq_true rfl) ⟨by omega, by omega⟩ ⟨by omega, by omega⟩ dL_law_1882 (fun r2 M1 h => ?_)
  refine ra_istore (L' := [(5, _), (4, _), (3, _), (2, _), (1, _), (0, _)]) E dL_law_1885 (by decide) rfl ?_
  refine ra_aload_n E dL_law_1887 rfl 3 rfl ?_
  refine ra_aload_n E dL_law_1888 rfl 5 rfl ?_
  refine ra_iload E dL_law_1889 1 rfl ?_
  refine ra_iconst E dL_law_1891 ki_1 ?_
  refine ra_iadd E dL_law_1892 ?_
  refine ra_sld E hX hbl hbA hw1 dL_law_1893 ?_
  refine ra_callIV (rest := []) E (c_X13_isReady _ _ _ h) lq_13L cv_X13_isReady ml_L_272 (by decide) (lmL (k := 699) (by decide)) (fun R => ⟨_, cel_699 tc ad R⟩) rfl rfl rfl (Nat.le_of_ble_eq_true rfl) ⟨by omega, by omega⟩ ⟨by omega, by omega⟩ dL_law_1894 (fun r4 M3 h => ?_)
  obtain ⟨b5, h⟩ := h
  refine ra_istore (L' := [(6, _), (5, _), (4, _), (3, _), (2, _), (1, _), (0, _)]) E dL_law_1897 (by decide) rfl ?_
  refine ra_aload_n E dL_law_1899 rfl 4 rfl ?_
  refine ra_callIV (rest := []) E (c_X13_thrown _ _ h) lq_13L cv_X13_thrown ml_L_170 (by decide) (lmL (k := 699) (by decide)) (fun R => ⟨_, cel_699 tc ad R⟩) rfl rfl rfl (Nat.le_of_ble_eq_true rfl) ⟨by omega, by omega⟩ ⟨by omega, by omega⟩ dL_law_1900 (fun r7 M6 h => ?_)
  refine ra_iload E dL_law_1903 1 rfl ?_
  refine ra_icmp_eq (tgt := 1910) E dL_law_1905 (by decide) (fun q8 => ?_) (fun q8 => ?_)
  · replace h := h.1 q8
    refine ra_iload E dL_law_1910 1 rfl ?_
    refine ra_if_ne (tgt := 1934) E dL_law_1912 (by decide) (fun q9 => ?_) (fun q9 => ?_)
    · replace h := h.1 q9
      refine ra_goto (tgt := 3273) E dL_law_1934 (by decide) ?_
      exact ra_sub (L' := [(4, _), (3, _), (2, _), (1, _), (0, _)]) [2, 3, 4, 5, 6] rfl (ra_widen (k := cells + 16) (n := slots + 96) (by omega) (by omega) (hK _ h))
    · replace h := h.2 q9
      refine ra_aload_n E dL_law_1915 rfl 3 rfl ?_
      refine ra_iconst E dL_law_1916 ki_0 ?_
      refine ra_lald E (lmL (by decide)) rfl dL_law_1917 ?_
      refine ra_iload E dL_law_1918 0 rfl ?_
      refine ra_if_eq (tgt := 1927) E dL_law_1920 (by decide) (fun q10 => ?_) (fun q10 => ?_)
      · replace h := h.1 q10
        refine ra_lconst (v := (0 : Int32).toInt64) E dL_law_1927 (by decide +kernel) ?_
        refine ra_lcmp E dL_law_1928 ?_
        refine ra_if_eq (tgt := 1934) E dL_law_1929 (by decide) (fun q11 => ?_) (fun q11 => ?_)
        · replace h := h.1 q11
          refine ra_goto (tgt := 3273) E dL_law_1934 (by decide) ?_
          exact ra_sub (L' := [(4, _), (3, _), (2, _), (1, _), (0, _)]) [2, 3, 4, 5, 6] rfl (ra_widen (k := cells + 16) (n := slots + 96) (by omega) (by omega) (hK _ h))
        · replace h := h.2 q11
          refine ra_iconst E dL_law_1932 ki_0 ?_
          exact h.elim
      · replace h := h.2 q10
        refine ra_lconst (v := (1 : Int32).toInt64) E dL_law_1923 (by decide +kernel) ?_
        refine ra_goto (tgt := 1928) E dL_law_1924 (by decide) ?_
        refine ra_lcmp E dL_law_1928 ?_
        refine ra_if_eq (tgt := 1934) E dL_law_1929 (by decide) (fun q12 => ?_) (fun q12 => ?_)
        · replace h := h.1 q12
          refine ra_goto (tgt := 3273) E dL_law_1934 (by decide) ?_
          exact ra_sub (L' := [(4, _), (3, _), (2, _), (1, _), (0, _)]) [2, 3, 4, 5, 6] rfl (ra_widen (k := cells + 16) (n := slots + 96) (by omega) (by omega) (hK _ h))
        · replace h := h.2 q12
          refine ra_iconst E dL_law_1932 ki_0 ?_
          exact h.elim
  · replace h := h.2 q8
    refine ra_iconst E dL_law_1908 ki_0 ?_
    exact h.elim
def f_law_33 (xs : Nat → Int32) (i : Int32) (M : TM) (K : TM → Prop) : Prop := f_L_isEaten (xs (i + (1 : Int32)).toNatClampNeg) M (fun r2 M1 => f_X13_isEaten (xs (i + (1 : Int32)).toNatClampNeg) M1 (fun r4 M3 => f_X13_thrown M3 (fun r7 M6 => ((r7 = r2 → ((¬ r2 = 0 → K M6) ∧ (r2 = 0 → ((r4 = 0 → (((lg_cmp (M6 710 0).toInt64 (0 : Int32).toInt64) = 0 → K M6) ∧ (¬ (lg_cmp (M6 710 0).toInt64 (0 : Int32).toInt64) = 0 → False))) ∧ (¬ r4 = 0 → (((lg_cmp (M6 710 0).toInt64 (1 : Int32).toInt64) = 0 → K M6) ∧ (¬ (lg_cmp (M6 710 0).toInt64 (1 : Int32).toInt64) = 0 → False))))))) ∧ (¬ r7 = r2 → False)))))
set_option maxRecDepth 100000 in
set_option maxHeartbeats 4000000 in
theorem l_law_33 {p : Program} {l : Launch} {e : Env} {R : Room} {s : State} {m : MethodId} {args : Array Value} {below : List Frame} {meth : Method} {c : Code} {cells slots : Nat} {Q : State → Prop} {D : va_G} {tc : Nat → ClassId} {ad : Nat → Nat} {b Lx : Nat} {xs : Nat → Int32} {i : Int32} {K : TM → Prop} (E : Ev p s m args meth c D tc ad RL cL_law 9) (hfl : l.stackTraces = false) (hX : va_X b Lx xs s s.heap) (hbl : b < s.heap.size) (hbA : ¬ A0 ad s.heap.size b) (hw0 : vp_in i Lx) (hw1 : vp_in (i + (1 : Int32)) Lx) (hw2 : vp_in (i + (2 : Int32)) Lx) (hw3 : vp_in (i + (3 : Int32)) Lx) (hw4 : vp_in (i + (4 : Int32)) Lx) (hw5 : vp_in (i + (5 : Int32)) Lx) (hRm : 40 ≤ R.frames ∧ 1640 ≤ R.locals) (hcl : cells + 16 ≤ R.cells ∧ slots + 96 ≤ R.slots) (hK : ∀ M', K M' → Wa p l e R s m args below meth c (cells + 16) (slots + 96) Q D tc ad 9 M' 3273 [(4, .int i), (3, .ref (ad 710)), (2, .ref (ad 699)), (1, .ref (ad 0)), (0, .ref b)] []) (M : TM) (h : f_law_33 xs i M K) : Wa p l e R s m args below meth c cells slots Q D tc ad 9 M 1937 [(4, .int i), (3, .ref (ad 710)), (2, .ref (ad 699)), (1, .ref (ad 0)), (0, .ref b)] [] := by
  unfold f_law_33 at h
  refine ra_aload_n E dL_law_1937 rfl 3 rfl ?_
  refine ra_aload_n E dL_law_1938 rfl 4 rfl ?_
  refine ra_iload E dL_law_1939 0 rfl ?_
  refine ra_iconst E dL_law_1941 ki_1 ?_
  refine ra_iadd E dL_law_1942 ?_
  refine ra_sld E hX hbl hbA hw1 dL_law_1943 ?_
  refine ra_aload_n E dL_law_1944 rfl 1 rfl ?_
  refine rx_callW (rest := []) E hfl (c_L_isEaten _ _ _ h) lq_L ctw_L_isEaten ml_L_273 (by decide) rfl rfl (Nat.le_of_ble_eq_true rfl) ⟨by omega, by omega⟩ ⟨by omega, by omega⟩ dL_law_1945 (fun r2 M1 h => ?_)
  refine ra_istore (L' := [(5, _), (4, _), (3, _), (2, _), (1, _), (0, _)]) E dL_law_1948 (by decide) rfl ?_
  refine ra_aload_n E dL_law_1950 rfl 3 rfl ?_
  refine ra_aload_n E dL_law_1951 rfl 5 rfl ?_
  refine ra_iload E dL_law_1952 1 rfl ?_
  refine ra_iconst E dL_law_1954 ki_1 ?_
  refine ra_iadd E dL_law_1955 ?_
  refine ra_sld E hX hbl hbA hw1 dL_law_1956 ?_
  refine ra_callIV (rest := []) E (c_X13_isEaten _ _ _ h) lq_13L cv_X13_isEaten ml_L_275 (by decide) (lmL (k := 699) (by decide)) (fun R => ⟨_, cel_699 tc ad R⟩) rfl rfl rfl (Nat.le_of_ble_eq_true rfl) ⟨by omega, by omega⟩ ⟨by omega, by omega⟩ dL_law_1957 (fun r4 M3 h => ?_)
  obtain ⟨b5, h⟩ := h
  refine ra_istore (L' := [(6, _), (5, _), (4, _), (3, _), (2, _), (1, _), (0, _)]) E dL_law_1960 (by decide) rfl ?_
  refine ra_aload_n E dL_law_1962 rfl 4 rfl ?_
  refine ra_callIV (rest := []) E (c_X13_thrown _ _ h) lq_13L cv_X13_thrown ml_L_170 (by decide) (lmL (k := 699) (by decide)) (fun R => ⟨_, cel_699 tc ad R⟩) rfl rfl rfl (Nat.le_of_ble_eq_true rfl) ⟨by omega, by omega⟩ ⟨by omega, by omega⟩ dL_law_1963 (fun r7 M6 h => ?_)
  refine ra_iload E dL_law_1966 1 rfl ?_
  refine ra_icmp_eq (tgt := 1973) E dL_law_1968 (by decide) (fun q8 => ?_) (fun q8 => ?_)
  · replace h := h.1 q8
    refine ra_iload E dL_law_1973 1 rfl ?_
    refine ra_if_ne (tgt := 1997) E dL_law_1975 (by decide) (fun q9 => ?_) (fun q9 => ?_)
    · replace h := h.1 q9
      refine ra_goto (tgt := 3273) E dL_law_1997 (by decide) ?_
      exact ra_sub (L' := [(4, _), (3, _), (2, _), (1, _), (0, _)]) [2, 3, 4, 5, 6] rfl (ra_widen (k := cells + 16) (n := slots + 96) (by omega) (by omega) (hK _ h))
    · replace h := h.2 q9
      refine ra_aload_n E dL_law_1978 rfl 3 rfl ?_
      refine ra_iconst E dL_law_1979 ki_0 ?_
      refine ra_lald E (lmL (by decide)) rfl dL_law_1980 ?_
      refine ra_iload E dL_law_1981 0 rfl ?_
      refine ra_if_eq (tgt := 1990) E dL_law_1983 (by decide) (fun q10 => ?_) (fun q10 => ?_)
      · replace h := h.1 q10
        refine ra_lconst (v := (0 : Int32).toInt64) E dL_law_1990 (by decide +kernel) ?_
        refine ra_lcmp E dL_law_1991 ?_
        refine ra_if_eq (tgt := 1997) E dL_law_1992 (by decide) (fun q11 => ?_) (fun q11 => ?_)
        · replace h := h.1 q11
          refine ra_goto (tgt := 3273) E dL_law_1997 (by decide) ?_
          exact ra_sub (L' := [(4, _), (3, _), (2, _), (1, _), (0, _)]) [2, 3, 4, 5, 6] rfl (ra_widen (k := cells + 16) (n := slots + 96) (by omega) (by omega) (hK _ h))
        · replace h := h.2 q11
          refine ra_iconst E dL_law_1995 ki_0 ?_
          exact h.elim
      · replace h := h.2 q10
        refine ra_lconst (v := (1 : Int32).toInt64) E dL_law_1986 (by decide +kernel) ?_
        refine ra_goto (tgt := 1991) E dL_law_1987 (by decide) ?_
        refine ra_lcmp E dL_law_1991 ?_
        refine ra_if_eq (tgt := 1997) E dL_law_1992 (by decide) (fun q12 => ?_) (fun q12 => ?_)
        · replace h := h.1 q12
          refine ra_goto (tgt := 3273) E dL_law_1997 (by decide) ?_
          exact ra_sub (L' := [(4, _), (3, _), (2, _), (1, _), (0, _)]) [2, 3, 4, 5, 6] rfl (ra_widen (k := cells + 16) (n := slots + 96) (by omega) (by omega) (hK _ h))
        · replace h := h.2 q12
          refine ra_iconst E dL_law_1995 ki_0 ?_
          exact h.elim
  · replace h := h.2 q8
    refine ra_iconst E dL_law_1971 ki_0 ?_
    exact h.elim
def f_law_34 (xs : Nat → Int32) (i : Int32) (M : TM) (K : TM → Prop) : Prop := f_X12_mostUrgentOrder M (fun r2 M1 => f_X13_mostUrgentOrder M1 (fun r4 M3 => ((r2 = r4 → K M3) ∧ (¬ r2 = r4 → False))))
set_option maxRecDepth 100000 in
set_option maxHeartbeats 4000000 in
theorem l_law_34 {p : Program} {l : Launch} {e : Env} {R : Room} {s : State} {m : MethodId} {args : Array Value} {below : List Frame} {meth : Method} {c : Code} {cells slots : Nat} {Q : State → Prop} {D : va_G} {tc : Nat → ClassId} {ad : Nat → Nat} {b Lx : Nat} {xs : Nat → Int32} {i : Int32} {K : TM → Prop} (E : Ev p s m args meth c D tc ad RL cL_law 9) (hfl : l.stackTraces = false) (hX : va_X b Lx xs s s.heap) (hbl : b < s.heap.size) (hbA : ¬ A0 ad s.heap.size b) (hw0 : vp_in i Lx) (hw1 : vp_in (i + (1 : Int32)) Lx) (hw2 : vp_in (i + (2 : Int32)) Lx) (hw3 : vp_in (i + (3 : Int32)) Lx) (hw4 : vp_in (i + (4 : Int32)) Lx) (hw5 : vp_in (i + (5 : Int32)) Lx) (hRm : 40 ≤ R.frames ∧ 1640 ≤ R.locals) (hcl : cells + 16 ≤ R.cells ∧ slots + 96 ≤ R.slots) (hK : ∀ M', K M' → Wa p l e R s m args below meth c (cells + 16) (slots + 96) Q D tc ad 9 M' 3273 [(4, .int i), (3, .ref (ad 710)), (2, .ref (ad 699)), (1, .ref (ad 0)), (0, .ref b)] []) (M : TM) (h : f_law_34 xs i M K) : Wa p l e R s m args below meth c cells slots Q D tc ad 9 M 2000 [(4, .int i), (3, .ref (ad 710)), (2, .ref (ad 699)), (1, .ref (ad 0)), (0, .ref b)] [] := by
  unfold f_law_34 at h
  refine ra_aload_n E dL_law_2000 rfl 3 rfl ?_
  refine ra_callIV (rest := []) E (c_X12_mostUrgentOrder _ _ h) (lq_X12 _) cv_X12_mostUrgentOrder ml_L_276 (by decide) (lm (by decide)) (fun R => ⟨_, cel_0 tc ad R⟩) rfl rfl rfl (Nat.le_of_ble_eq_true rfl) ⟨by omega, by omega⟩ ⟨by omega, by omega⟩ dL_law_2001 (fun r2 M1 h => ?_)
  refine ra_aload_n E dL_law_2004 rfl 2 rfl ?_
  refine ra_callIV (rest := [_]) E (c_X13_mostUrgentOrder _ _ h) lq_13L cv_X13_mostUrgentOrder ml_L_279 (by decide) (lmL (k := 699) (by decide)) (fun R => ⟨_, cel_699 tc ad R⟩) rfl rfl rfl (Nat.le_of_ble_eq_true rfl) ⟨by omega, by omega⟩ ⟨by omega, by omega⟩ dL_law_2005 (fun r4 M3 h => ?_)
  refine ra_icmp_eq (tgt := 3273) E dL_law_2008 (by decide) (fun q5 => ?_) (fun q5 => ?_)
  · replace h := h.1 q5
    exact ra_sub (L' := [(4, _), (3, _), (2, _), (1, _), (0, _)]) [0, 1, 2, 3, 4] rfl (ra_widen (k := cells + 16) (n := slots + 96) (by omega) (by omega) (hK _ h))
  · replace h := h.2 q5
    refine ra_iconst E dL_law_2011 ki_0 ?_
    exact h.elim
def f_law_35 (xs : Nat → Int32) (i : Int32) (M : TM) (K : TM → Prop) : Prop := f_X12_coins M (fun r2 M1 => f_X13_coins M1 (fun r4 M3 => ((r2 = r4 → K M3) ∧ (¬ r2 = r4 → False))))
set_option maxRecDepth 100000 in
set_option maxHeartbeats 4000000 in
theorem l_law_35 {p : Program} {l : Launch} {e : Env} {R : Room} {s : State} {m : MethodId} {args : Array Value} {below : List Frame} {meth : Method} {c : Code} {cells slots : Nat} {Q : State → Prop} {D : va_G} {tc : Nat → ClassId} {ad : Nat → Nat} {b Lx : Nat} {xs : Nat → Int32} {i : Int32} {K : TM → Prop} (E : Ev p s m args meth c D tc ad RL cL_law 9) (hfl : l.stackTraces = false) (hX : va_X b Lx xs s s.heap) (hbl : b < s.heap.size) (hbA : ¬ A0 ad s.heap.size b) (hw0 : vp_in i Lx) (hw1 : vp_in (i + (1 : Int32)) Lx) (hw2 : vp_in (i + (2 : Int32)) Lx) (hw3 : vp_in (i + (3 : Int32)) Lx) (hw4 : vp_in (i + (4 : Int32)) Lx) (hw5 : vp_in (i + (5 : Int32)) Lx) (hRm : 40 ≤ R.frames ∧ 1640 ≤ R.locals) (hcl : cells + 16 ≤ R.cells ∧ slots + 96 ≤ R.slots) (hK : ∀ M', K M' → Wa p l e R s m args below meth c (cells + 16) (slots + 96) Q D tc ad 9 M' 3273 [(4, .int i), (3, .ref (ad 710)), (2, .ref (ad 699)), (1, .ref (ad 0)), (0, .ref b)] []) (M : TM) (h : f_law_35 xs i M K) : Wa p l e R s m args below meth c cells slots Q D tc ad 9 M 2013 [(4, .int i), (3, .ref (ad 710)), (2, .ref (ad 699)), (1, .ref (ad 0)), (0, .ref b)] [] := by
  unfold f_law_35 at h
  refine ra_aload_n E dL_law_2013 rfl 3 rfl ?_
  refine ra_callIV (rest := []) E (c_X12_coins _ _ h) (lq_X12 _) cv_X12_coins ml_L_280 (by decide) (lm (by decide)) (fun R => ⟨_, cel_0 tc ad R⟩) rfl rfl rfl (Nat.le_of_ble_eq_true rfl) ⟨by omega, by omega⟩ ⟨by omega, by omega⟩ dL_law_2014 (fun r2 M1 h => ?_)
  refine ra_aload_n E dL_law_2017 rfl 2 rfl ?_
  refine ra_callIV (rest := [_]) E (c_X13_coins _ _ h) lq_13L cv_X13_coins ml_L_283 (by decide) (lmL (k := 699) (by decide)) (fun R => ⟨_, cel_699 tc ad R⟩) rfl rfl rfl (Nat.le_of_ble_eq_true rfl) ⟨by omega, by omega⟩ ⟨by omega, by omega⟩ dL_law_2018 (fun r4 M3 h => ?_)
  refine ra_icmp_eq (tgt := 3273) E dL_law_2021 (by decide) (fun q5 => ?_) (fun q5 => ?_)
  · replace h := h.1 q5
    exact ra_sub (L' := [(4, _), (3, _), (2, _), (1, _), (0, _)]) [0, 1, 2, 3, 4] rfl (ra_widen (k := cells + 16) (n := slots + 96) (by omega) (by omega) (hK _ h))
  · replace h := h.2 q5
    refine ra_iconst E dL_law_2024 ki_0 ?_
    exact h.elim
def f_law_36 (xs : Nat → Int32) (i : Int32) (M : TM) (K : TM → Prop) : Prop := f_X12_eatenBowls M (fun r2 M1 => f_X13_eatenBowls M1 (fun r4 M3 => ((r2 = r4 → K M3) ∧ (¬ r2 = r4 → False))))
set_option maxRecDepth 100000 in
set_option maxHeartbeats 4000000 in
theorem l_law_36 {p : Program} {l : Launch} {e : Env} {R : Room} {s : State} {m : MethodId} {args : Array Value} {below : List Frame} {meth : Method} {c : Code} {cells slots : Nat} {Q : State → Prop} {D : va_G} {tc : Nat → ClassId} {ad : Nat → Nat} {b Lx : Nat} {xs : Nat → Int32} {i : Int32} {K : TM → Prop} (E : Ev p s m args meth c D tc ad RL cL_law 9) (hfl : l.stackTraces = false) (hX : va_X b Lx xs s s.heap) (hbl : b < s.heap.size) (hbA : ¬ A0 ad s.heap.size b) (hw0 : vp_in i Lx) (hw1 : vp_in (i + (1 : Int32)) Lx) (hw2 : vp_in (i + (2 : Int32)) Lx) (hw3 : vp_in (i + (3 : Int32)) Lx) (hw4 : vp_in (i + (4 : Int32)) Lx) (hw5 : vp_in (i + (5 : Int32)) Lx) (hRm : 40 ≤ R.frames ∧ 1640 ≤ R.locals) (hcl : cells + 16 ≤ R.cells ∧ slots + 96 ≤ R.slots) (hK : ∀ M', K M' → Wa p l e R s m args below meth c (cells + 16) (slots + 96) Q D tc ad 9 M' 3273 [(4, .int i), (3, .ref (ad 710)), (2, .ref (ad 699)), (1, .ref (ad 0)), (0, .ref b)] []) (M : TM) (h : f_law_36 xs i M K) : Wa p l e R s m args below meth c cells slots Q D tc ad 9 M 2026 [(4, .int i), (3, .ref (ad 710)), (2, .ref (ad 699)), (1, .ref (ad 0)), (0, .ref b)] [] := by
  unfold f_law_36 at h
  refine ra_aload_n E dL_law_2026 rfl 3 rfl ?_
  refine ra_callIV (rest := []) E (c_X12_eatenBowls _ _ h) (lq_X12 _) cv_X12_eatenBowls ml_L_284 (by decide) (lm (by decide)) (fun R => ⟨_, cel_0 tc ad R⟩) rfl rfl rfl (Nat.le_of_ble_eq_true rfl) ⟨by omega, by omega⟩ ⟨by omega, by omega⟩ dL_law_2027 (fun r2 M1 h => ?_)
  refine ra_aload_n E dL_law_2030 rfl 2 rfl ?_
  refine ra_callIV (rest := [_]) E (c_X13_eatenBowls _ _ h) lq_13L cv_X13_eatenBowls ml_L_287 (by decide) (lmL (k := 699) (by decide)) (fun R => ⟨_, cel_699 tc ad R⟩) rfl rfl rfl (Nat.le_of_ble_eq_true rfl) ⟨by omega, by omega⟩ ⟨by omega, by omega⟩ dL_law_2031 (fun r4 M3 h => ?_)
  refine ra_icmp_eq (tgt := 3273) E dL_law_2034 (by decide) (fun q5 => ?_) (fun q5 => ?_)
  · replace h := h.1 q5
    exact ra_sub (L' := [(4, _), (3, _), (2, _), (1, _), (0, _)]) [0, 1, 2, 3, 4] rfl (ra_widen (k := cells + 16) (n := slots + 96) (by omega) (by omega) (hK _ h))
  · replace h := h.2 q5
    refine ra_iconst E dL_law_2037 ki_0 ?_
    exact h.elim
def f_law_37 (xs : Nat → Int32) (i : Int32) (M : TM) (K : TM → Prop) : Prop := f_X12_expiredOrders M (fun r2 M1 => f_X13_expiredOrders M1 (fun r4 M3 => ((r2 = r4 → K M3) ∧ (¬ r2 = r4 → False))))
set_option maxRecDepth 100000 in
set_option maxHeartbeats 4000000 in
theorem l_law_37 {p : Program} {l : Launch} {e : Env} {R : Room} {s : State} {m : MethodId} {args : Array Value} {below : List Frame} {meth : Method} {c : Code} {cells slots : Nat} {Q : State → Prop} {D : va_G} {tc : Nat → ClassId} {ad : Nat → Nat} {b Lx : Nat} {xs : Nat → Int32} {i : Int32} {K : TM → Prop} (E : Ev p s m args meth c D tc ad RL cL_law 9) (hfl : l.stackTraces = false) (hX : va_X b Lx xs s s.heap) (hbl : b < s.heap.size) (hbA : ¬ A0 ad s.heap.size b) (hw0 : vp_in i Lx) (hw1 : vp_in (i + (1 : Int32)) Lx) (hw2 : vp_in (i + (2 : Int32)) Lx) (hw3 : vp_in (i + (3 : Int32)) Lx) (hw4 : vp_in (i + (4 : Int32)) Lx) (hw5 : vp_in (i + (5 : Int32)) Lx) (hRm : 40 ≤ R.frames ∧ 1640 ≤ R.locals) (hcl : cells + 16 ≤ R.cells ∧ slots + 96 ≤ R.slots) (hK : ∀ M', K M' → Wa p l e R s m args below meth c (cells + 16) (slots + 96) Q D tc ad 9 M' 3273 [(4, .int i), (3, .ref (ad 710)), (2, .ref (ad 699)), (1, .ref (ad 0)), (0, .ref b)] []) (M : TM) (h : f_law_37 xs i M K) : Wa p l e R s m args below meth c cells slots Q D tc ad 9 M 2039 [(4, .int i), (3, .ref (ad 710)), (2, .ref (ad 699)), (1, .ref (ad 0)), (0, .ref b)] [] := by
  unfold f_law_37 at h
  refine ra_aload_n E dL_law_2039 rfl 3 rfl ?_
  refine ra_callIV (rest := []) E (c_X12_expiredOrders _ _ h) (lq_X12 _) cv_X12_expiredOrders ml_L_288 (by decide) (lm (by decide)) (fun R => ⟨_, cel_0 tc ad R⟩) rfl rfl rfl (Nat.le_of_ble_eq_true rfl) ⟨by omega, by omega⟩ ⟨by omega, by omega⟩ dL_law_2040 (fun r2 M1 h => ?_)
  refine ra_aload_n E dL_law_2043 rfl 2 rfl ?_
  refine ra_callIV (rest := [_]) E (c_X13_expiredOrders _ _ h) lq_13L cv_X13_expiredOrders ml_L_291 (by decide) (lmL (k := 699) (by decide)) (fun R => ⟨_, cel_699 tc ad R⟩) rfl rfl rfl (Nat.le_of_ble_eq_true rfl) ⟨by omega, by omega⟩ ⟨by omega, by omega⟩ dL_law_2044 (fun r4 M3 h => ?_)
  refine ra_icmp_eq (tgt := 3273) E dL_law_2047 (by decide) (fun q5 => ?_) (fun q5 => ?_)
  · replace h := h.1 q5
    exact ra_sub (L' := [(4, _), (3, _), (2, _), (1, _), (0, _)]) [0, 1, 2, 3, 4] rfl (ra_widen (k := cells + 16) (n := slots + 96) (by omega) (by omega) (hK _ h))
  · replace h := h.2 q5
    refine ra_iconst E dL_law_2050 ki_0 ?_
    exact h.elim
def f_law_38 (xs : Nat → Int32) (i : Int32) (M : TM) (K : TM → Prop) : Prop := f_X12_meanCleanPairs M (fun r2 M1 => f_X13_meanCleanPairs M1 (fun r4 M3 => (((Op.cmpValue (FP.dcmp r2 r4) .l) = 0 → K M3) ∧ (¬ (Op.cmpValue (FP.dcmp r2 r4) .l) = 0 → (((Op.cmpValue (FP.dcmp r2 r2) .l) = 0 → False) ∧ (¬ (Op.cmpValue (FP.dcmp r2 r2) .l) = 0 → ((¬ (Op.cmpValue (FP.dcmp r4 r4) .l) = 0 → K M3) ∧ ((Op.cmpValue (FP.dcmp r4 r4) .l) = 0 → False))))))))
set_option maxRecDepth 100000 in
set_option maxHeartbeats 4000000 in
theorem l_law_38 {p : Program} {l : Launch} {e : Env} {R : Room} {s : State} {m : MethodId} {args : Array Value} {below : List Frame} {meth : Method} {c : Code} {cells slots : Nat} {Q : State → Prop} {D : va_G} {tc : Nat → ClassId} {ad : Nat → Nat} {b Lx : Nat} {xs : Nat → Int32} {i : Int32} {K : TM → Prop} (E : Ev p s m args meth c D tc ad RL cL_law 9) (hfl : l.stackTraces = false) (hX : va_X b Lx xs s s.heap) (hbl : b < s.heap.size) (hbA : ¬ A0 ad s.heap.size b) (hw0 : vp_in i Lx) (hw1 : vp_in (i + (1 : Int32)) Lx) (hw2 : vp_in (i + (2 : Int32)) Lx) (hw3 : vp_in (i + (3 : Int32)) Lx) (hw4 : vp_in (i + (4 : Int32)) Lx) (hw5 : vp_in (i + (5 : Int32)) Lx) (hRm : 40 ≤ R.frames ∧ 1640 ≤ R.locals) (hcl : cells + 16 ≤ R.cells ∧ slots + 96 ≤ R.slots) (hK : ∀ M', K M' → Wa p l e R s m args below meth c (cells + 16) (slots + 96) Q D tc ad 9 M' 3273 [(4, .int i), (3, .ref (ad 710)), (2, .ref (ad 699)), (1, .ref (ad 0)), (0, .ref b)] []) (M : TM) (h : f_law_38 xs i M K) : Wa p l e R s m args below meth c cells slots Q D tc ad 9 M 2052 [(4, .int i), (3, .ref (ad 710)), (2, .ref (ad 699)), (1, .ref (ad 0)), (0, .ref b)] [] := by
  unfold f_law_38 at h
  refine ra_aload_n E dL_law_2052 rfl 3 rfl ?_
  refine ra_callDV (rest := []) E (c_X12_meanCleanPairs _ _ h) (lq_X12 _) cv_X12_meanCleanPairs ml_L_292 (by decide) (lm (by decide)) (fun R => ⟨_, cel_0 tc ad R⟩) rfl rfl rfl (Nat.le_of_ble_eq_true rfl) ⟨by omega, by omega⟩ ⟨by omega, by omega⟩ dL_law_2053 (fun r2 M1 h => ?_)
  refine ra_dstore (L' := [(5, _), (4, _), (3, _), (2, _), (1, _), (0, _)]) E dL_law_2056 (by decide) rfl ?_
  refine ra_aload_n E dL_law_2058 rfl 3 rfl ?_
  refine ra_callDV (rest := []) E (c_X13_meanCleanPairs _ _ h) lq_13L cv_X13_meanCleanPairs ml_L_296 (by decide) (lmL (k := 699) (by decide)) (fun R => ⟨_, cel_699 tc ad R⟩) rfl rfl rfl (Nat.le_of_ble_eq_true rfl) ⟨by omega, by omega⟩ ⟨by omega, by omega⟩ dL_law_2059 (fun r4 M3 h => ?_)
  refine ra_dstore (L' := [(7, _), (5, _), (4, _), (3, _), (2, _), (1, _), (0, _)]) E dL_law_2062 (by decide) rfl ?_
  refine ra_dload E dL_law_2064 1 rfl ?_
  refine ra_dload E dL_law_2066 0 rfl ?_
  refine ra_dcmp E dL_law_2068 ?_
  refine ra_if_eq (tgt := 2090) E dL_law_2069 (by decide) (fun q5 => ?_) (fun q5 => ?_)
  · replace h := h.1 q5
    refine ra_goto (tgt := 3273) E dL_law_2090 (by decide) ?_
    exact ra_sub (L' := [(4, _), (3, _), (2, _), (1, _), (0, _)]) [2, 3, 4, 5, 6] rfl (ra_widen (k := cells + 16) (n := slots + 96) (by omega) (by omega) (hK _ h))
  · replace h := h.2 q5
    refine ra_dload E dL_law_2072 1 rfl ?_
    refine ra_dload E dL_law_2074 1 rfl ?_
    refine ra_dcmp E dL_law_2076 ?_
    refine ra_if_eq (tgt := 2088) E dL_law_2077 (by decide) (fun q6 => ?_) (fun q6 => ?_)
    · replace h := h.1 q6
      refine ra_iconst E dL_law_2088 ki_0 ?_
      exact h.elim
    · replace h := h.2 q6
      refine ra_dload E dL_law_2080 0 rfl ?_
      refine ra_dload E dL_law_2082 0 rfl ?_
      refine ra_dcmp E dL_law_2084 ?_
      refine ra_if_ne (tgt := 2090) E dL_law_2085 (by decide) (fun q7 => ?_) (fun q7 => ?_)
      · replace h := h.1 q7
        refine ra_goto (tgt := 3273) E dL_law_2090 (by decide) ?_
        exact ra_sub (L' := [(4, _), (3, _), (2, _), (1, _), (0, _)]) [2, 3, 4, 5, 6] rfl (ra_widen (k := cells + 16) (n := slots + 96) (by omega) (by omega) (hK _ h))
      · replace h := h.2 q7
        refine ra_iconst E dL_law_2088 ki_0 ?_
        exact h.elim
def f_law_39 (xs : Nat → Int32) (i : Int32) (M : TM) (K : TM → Prop) : Prop := f_X12_eatenShare M (fun r2 M1 => vf_n64 (FP.f2d r2) ∧ f_X13_eatenShare M1 (fun r5 M4 => vf_n64 (FP.f2d r5) ∧ (((Op.cmpValue (FP.dcmp (FP.f2d r2) (FP.f2d r5)) .l) = 0 → K M4) ∧ (¬ (Op.cmpValue (FP.dcmp (FP.f2d r2) (FP.f2d r5)) .l) = 0 → (((Op.cmpValue (FP.dcmp (FP.f2d r2) (FP.f2d r2)) .l) = 0 → False) ∧ (¬ (Op.cmpValue (FP.dcmp (FP.f2d r2) (FP.f2d r2)) .l) = 0 → ((¬ (Op.cmpValue (FP.dcmp (FP.f2d r5) (FP.f2d r5)) .l) = 0 → K M4) ∧ ((Op.cmpValue (FP.dcmp (FP.f2d r5) (FP.f2d r5)) .l) = 0 → False))))))))
set_option maxRecDepth 100000 in
set_option maxHeartbeats 4000000 in
theorem l_law_39 {p : Program} {l : Launch} {e : Env} {R : Room} {s : State} {m : MethodId} {args : Array Value} {below : List Frame} {meth : Method} {c : Code} {cells slots : Nat} {Q : State → Prop} {D : va_G} {tc : Nat → ClassId} {ad : Nat → Nat} {b Lx : Nat} {xs : Nat → Int32} {i : Int32} {K : TM → Prop} (E : Ev p s m args meth c D tc ad RL cL_law 9) (hfl : l.stackTraces = false) (hX : va_X b Lx xs s s.heap) (hbl : b < s.heap.size) (hbA : ¬ A0 ad s.heap.size b) (hw0 : vp_in i Lx) (hw1 : vp_in (i + (1 : Int32)) Lx) (hw2 : vp_in (i + (2 : Int32)) Lx) (hw3 : vp_in (i + (3 : Int32)) Lx) (hw4 : vp_in (i + (4 : Int32)) Lx) (hw5 : vp_in (i + (5 : Int32)) Lx) (hRm : 40 ≤ R.frames ∧ 1640 ≤ R.locals) (hcl : cells + 16 ≤ R.cells ∧ slots + 96 ≤ R.slots) (hK : ∀ M', K M' → Wa p l e R s m args below meth c (cells + 16) (slots + 96) Q D tc ad 9 M' 3273 [(4, .int i), (3, .ref (ad 710)), (2, .ref (ad 699)), (1, .ref (ad 0)), (0, .ref b)] []) (M : TM) (h : f_law_39 xs i M K) : Wa p l e R s m args below meth c cells slots Q D tc ad 9 M 2093 [(4, .int i), (3, .ref (ad 710)), (2, .ref (ad 699)), (1, .ref (ad 0)), (0, .ref b)] [] := by
  unfold f_law_39 at h
  refine ra_aload_n E dL_law_2093 rfl 3 rfl ?_
  refine ra_callFV (rest := []) E (c_X12_eatenShare _ _ h) (lq_X12 _) cv_X12_eatenShare ml_L_297 (by decide) (lm (by decide)) (fun R => ⟨_, cel_0 tc ad R⟩) rfl rfl rfl (Nat.le_of_ble_eq_true rfl) ⟨by omega, by omega⟩ ⟨by omega, by omega⟩ dL_law_2094 (fun r2 M1 h => ?_)
  obtain ⟨g3, h⟩ := h
  refine ra_f2d E g3 dL_law_2097 ?_
  refine ra_dstore (L' := [(5, _), (4, _), (3, _), (2, _), (1, _), (0, _)]) E dL_law_2098 (by decide) rfl ?_
  refine ra_aload_n E dL_law_2100 rfl 3 rfl ?_
  refine ra_callFV (rest := []) E (c_X13_eatenShare _ _ h) lq_13L cv_X13_eatenShare ml_L_301 (by decide) (lmL (k := 699) (by decide)) (fun R => ⟨_, cel_699 tc ad R⟩) rfl rfl rfl (Nat.le_of_ble_eq_true rfl) ⟨by omega, by omega⟩ ⟨by omega, by omega⟩ dL_law_2101 (fun r5 M4 h => ?_)
  obtain ⟨g6, h⟩ := h
  refine ra_f2d E g6 dL_law_2104 ?_
  refine ra_dstore (L' := [(7, _), (5, _), (4, _), (3, _), (2, _), (1, _), (0, _)]) E dL_law_2105 (by decide) rfl ?_
  refine ra_dload E dL_law_2107 1 rfl ?_
  refine ra_dload E dL_law_2109 0 rfl ?_
  refine ra_dcmp E dL_law_2111 ?_
  refine ra_if_eq (tgt := 2133) E dL_law_2112 (by decide) (fun q7 => ?_) (fun q7 => ?_)
  · replace h := h.1 q7
    refine ra_goto (tgt := 3273) E dL_law_2133 (by decide) ?_
    exact ra_sub (L' := [(4, _), (3, _), (2, _), (1, _), (0, _)]) [2, 3, 4, 5, 6] rfl (ra_widen (k := cells + 16) (n := slots + 96) (by omega) (by omega) (hK _ h))
  · replace h := h.2 q7
    refine ra_dload E dL_law_2115 1 rfl ?_
    refine ra_dload E dL_law_2117 1 rfl ?_
    refine ra_dcmp E dL_law_2119 ?_
    refine ra_if_eq (tgt := 2131) E dL_law_2120 (by decide) (fun q8 => ?_) (fun q8 => ?_)
    · replace h := h.1 q8
      refine ra_iconst E dL_law_2131 ki_0 ?_
      exact h.elim
    · replace h := h.2 q8
      refine ra_dload E dL_law_2123 0 rfl ?_
      refine ra_dload E dL_law_2125 0 rfl ?_
      refine ra_dcmp E dL_law_2127 ?_
      refine ra_if_ne (tgt := 2133) E dL_law_2128 (by decide) (fun q9 => ?_) (fun q9 => ?_)
      · replace h := h.1 q9
        refine ra_goto (tgt := 3273) E dL_law_2133 (by decide) ?_
        exact ra_sub (L' := [(4, _), (3, _), (2, _), (1, _), (0, _)]) [2, 3, 4, 5, 6] rfl (ra_widen (k := cells + 16) (n := slots + 96) (by omega) (by omega) (hK _ h))
      · replace h := h.2 q9
        refine ra_iconst E dL_law_2131 ki_0 ?_
        exact h.elim
def f_law_40 (xs : Nat → Int32) (i : Int32) (M : TM) (K : TM → Prop) : Prop := f_X12_gap M (fun r2 M1 => f_X13_gap M1 (fun r4 M3 => ((r2 = r4 → K M3) ∧ (¬ r2 = r4 → False))))
set_option maxRecDepth 100000 in
set_option maxHeartbeats 4000000 in
theorem l_law_40 {p : Program} {l : Launch} {e : Env} {R : Room} {s : State} {m : MethodId} {args : Array Value} {below : List Frame} {meth : Method} {c : Code} {cells slots : Nat} {Q : State → Prop} {D : va_G} {tc : Nat → ClassId} {ad : Nat → Nat} {b Lx : Nat} {xs : Nat → Int32} {i : Int32} {K : TM → Prop} (E : Ev p s m args meth c D tc ad RL cL_law 9) (hfl : l.stackTraces = false) (hX : va_X b Lx xs s s.heap) (hbl : b < s.heap.size) (hbA : ¬ A0 ad s.heap.size b) (hw0 : vp_in i Lx) (hw1 : vp_in (i + (1 : Int32)) Lx) (hw2 : vp_in (i + (2 : Int32)) Lx) (hw3 : vp_in (i + (3 : Int32)) Lx) (hw4 : vp_in (i + (4 : Int32)) Lx) (hw5 : vp_in (i + (5 : Int32)) Lx) (hRm : 40 ≤ R.frames ∧ 1640 ≤ R.locals) (hcl : cells + 16 ≤ R.cells ∧ slots + 96 ≤ R.slots) (hK : ∀ M', K M' → Wa p l e R s m args below meth c (cells + 16) (slots + 96) Q D tc ad 9 M' 3273 [(4, .int i), (3, .ref (ad 710)), (2, .ref (ad 699)), (1, .ref (ad 0)), (0, .ref b)] []) (M : TM) (h : f_law_40 xs i M K) : Wa p l e R s m args below meth c cells slots Q D tc ad 9 M 2136 [(4, .int i), (3, .ref (ad 710)), (2, .ref (ad 699)), (1, .ref (ad 0)), (0, .ref b)] [] := by
  unfold f_law_40 at h
  refine ra_aload_n E dL_law_2136 rfl 3 rfl ?_
  refine ra_callIV (rest := []) E (c_X12_gap _ _ h) (lq_X12 _) cv_X12_gap ml_L_302 (by decide) (lm (by decide)) (fun R => ⟨_, cel_0 tc ad R⟩) rfl rfl rfl (Nat.le_of_ble_eq_true rfl) ⟨by omega, by omega⟩ ⟨by omega, by omega⟩ dL_law_2137 (fun r2 M1 h => ?_)
  refine ra_aload_n E dL_law_2140 rfl 2 rfl ?_
  refine ra_callIV (rest := [_]) E (c_X13_gap _ _ h) lq_13L cv_X13_gap ml_L_305 (by decide) (lmL (k := 699) (by decide)) (fun R => ⟨_, cel_699 tc ad R⟩) rfl rfl rfl (Nat.le_of_ble_eq_true rfl) ⟨by omega, by omega⟩ ⟨by omega, by omega⟩ dL_law_2141 (fun r4 M3 h => ?_)
  refine ra_icmp_eq (tgt := 3273) E dL_law_2144 (by decide) (fun q5 => ?_) (fun q5 => ?_)
  · replace h := h.1 q5
    exact ra_sub (L' := [(4, _), (3, _), (2, _), (1, _), (0, _)]) [0, 1, 2, 3, 4] rfl (ra_widen (k := cells + 16) (n := slots + 96) (by omega) (by omega) (hK _ h))
  · replace h := h.2 q5
    refine ra_iconst E dL_law_2147 ki_0 ?_
    exact h.elim
def f_law_41 (xs : Nat → Int32) (i : Int32) (M : TM) (K : TM → Prop) : Prop := f_L_sailObstacle (xs (i + (1 : Int32)).toNatClampNeg) (xs (i + (2 : Int32)).toNatClampNeg) M (fun r2 M1 => f_X13_sailObstacle (xs (i + (1 : Int32)).toNatClampNeg) (xs (i + (2 : Int32)).toNatClampNeg) M1 (fun r4 M3 => f_X13_thrown M3 (fun r6 M5 => ((r6 = r2 → ((¬ r2 = 0 → K M5) ∧ (r2 = 0 → (((lg_cmp (M5 710 0).toInt64 r4.toInt64) = 0 → K M5) ∧ (¬ (lg_cmp (M5 710 0).toInt64 r4.toInt64) = 0 → False))))) ∧ (¬ r6 = r2 → False)))))
set_option maxRecDepth 100000 in
set_option maxHeartbeats 4000000 in
theorem l_law_41 {p : Program} {l : Launch} {e : Env} {R : Room} {s : State} {m : MethodId} {args : Array Value} {below : List Frame} {meth : Method} {c : Code} {cells slots : Nat} {Q : State → Prop} {D : va_G} {tc : Nat → ClassId} {ad : Nat → Nat} {b Lx : Nat} {xs : Nat → Int32} {i : Int32} {K : TM → Prop} (E : Ev p s m args meth c D tc ad RL cL_law 9) (hfl : l.stackTraces = false) (hX : va_X b Lx xs s s.heap) (hbl : b < s.heap.size) (hbA : ¬ A0 ad s.heap.size b) (hw0 : vp_in i Lx) (hw1 : vp_in (i + (1 : Int32)) Lx) (hw2 : vp_in (i + (2 : Int32)) Lx) (hw3 : vp_in (i + (3 : Int32)) Lx) (hw4 : vp_in (i + (4 : Int32)) Lx) (hw5 : vp_in (i + (5 : Int32)) Lx) (hRm : 40 ≤ R.frames ∧ 1640 ≤ R.locals) (hcl : cells + 16 ≤ R.cells ∧ slots + 96 ≤ R.slots) (hK : ∀ M', K M' → Wa p l e R s m args below meth c (cells + 16) (slots + 96) Q D tc ad 9 M' 3273 [(4, .int i), (3, .ref (ad 710)), (2, .ref (ad 699)), (1, .ref (ad 0)), (0, .ref b)] []) (M : TM) (h : f_law_41 xs i M K) : Wa p l e R s m args below meth c cells slots Q D tc ad 9 M 2149 [(4, .int i), (3, .ref (ad 710)), (2, .ref (ad 699)), (1, .ref (ad 0)), (0, .ref b)] [] := by
  unfold f_law_41 at h
  refine ra_aload_n E dL_law_2149 rfl 3 rfl ?_
  refine ra_aload_n E dL_law_2150 rfl 4 rfl ?_
  refine ra_iload E dL_law_2151 0 rfl ?_
  refine ra_iconst E dL_law_2153 ki_1 ?_
  refine ra_iadd E dL_law_2154 ?_
  refine ra_sld E hX hbl hbA hw1 dL_law_2155 ?_
  refine ra_aload_n E dL_law_2156 rfl 4 rfl ?_
  refine ra_iload E dL_law_2157 0 rfl ?_
  refine ra_iconst E dL_law_2159 ki_2 ?_
  refine ra_iadd E dL_law_2160 ?_
  refine ra_sld E hX hbl hbA hw2 dL_law_2161 ?_
  refine ra_aload_n E dL_law_2162 rfl 1 rfl ?_
  refine rx_callW (rest := []) E hfl (c_L_sailObstacle _ _ _ _ h) lq_L ctw_L_sailObstacle ml_L_306 (by decide) rfl rfl (Nat.le_of_ble_eq_true rfl) ⟨by omega, by omega⟩ ⟨by omega, by omega⟩ dL_law_2163 (fun r2 M1 h => ?_)
  refine ra_istore (L' := [(5, _), (4, _), (3, _), (2, _), (1, _), (0, _)]) E dL_law_2166 (by decide) rfl ?_
  refine ra_aload_n E dL_law_2168 rfl 3 rfl ?_
  refine ra_aload_n E dL_law_2169 rfl 5 rfl ?_
  refine ra_iload E dL_law_2170 1 rfl ?_
  refine ra_iconst E dL_law_2172 ki_1 ?_
  refine ra_iadd E dL_law_2173 ?_
  refine ra_sld E hX hbl hbA hw1 dL_law_2174 ?_
  refine ra_aload_n E dL_law_2175 rfl 5 rfl ?_
  refine ra_iload E dL_law_2176 1 rfl ?_
  refine ra_iconst E dL_law_2178 ki_2 ?_
  refine ra_iadd E dL_law_2179 ?_
  refine ra_sld E hX hbl hbA hw2 dL_law_2180 ?_
  refine ra_callIV (rest := []) E (c_X13_sailObstacle _ _ _ _ h) lq_13L cv_X13_sailObstacle ml_L_308 (by decide) (lmL (k := 699) (by decide)) (fun R => ⟨_, cel_699 tc ad R⟩) rfl rfl rfl (Nat.le_of_ble_eq_true rfl) ⟨by omega, by omega⟩ ⟨by omega, by omega⟩ dL_law_2181 (fun r4 M3 h => ?_)
  refine ra_istore (L' := [(6, _), (5, _), (4, _), (3, _), (2, _), (1, _), (0, _)]) E dL_law_2184 (by decide) rfl ?_
  refine ra_aload_n E dL_law_2186 rfl 4 rfl ?_
  refine ra_callIV (rest := []) E (c_X13_thrown _ _ h) lq_13L cv_X13_thrown ml_L_170 (by decide) (lmL (k := 699) (by decide)) (fun R => ⟨_, cel_699 tc ad R⟩) rfl rfl rfl (Nat.le_of_ble_eq_true rfl) ⟨by omega, by omega⟩ ⟨by omega, by omega⟩ dL_law_2187 (fun r6 M5 h => ?_)
  refine ra_iload E dL_law_2190 1 rfl ?_
  refine ra_icmp_eq (tgt := 2197) E dL_law_2192 (by decide) (fun q7 => ?_) (fun q7 => ?_)
  · replace h := h.1 q7
    refine ra_iload E dL_law_2197 1 rfl ?_
    refine ra_if_ne (tgt := 2214) E dL_law_2199 (by decide) (fun q8 => ?_) (fun q8 => ?_)
    · replace h := h.1 q8
      refine ra_goto (tgt := 3273) E dL_law_2214 (by decide) ?_
      exact ra_sub (L' := [(4, _), (3, _), (2, _), (1, _), (0, _)]) [2, 3, 4, 5, 6] rfl (ra_widen (k := cells + 16) (n := slots + 96) (by omega) (by omega) (hK _ h))
    · replace h := h.2 q8
      refine ra_aload_n E dL_law_2202 rfl 3 rfl ?_
      refine ra_iconst E dL_law_2203 ki_0 ?_
      refine ra_lald E (lmL (by decide)) rfl dL_law_2204 ?_
      refine ra_iload E dL_law_2205 0 rfl ?_
      refine ra_i2l E dL_law_2207 rfl ?_
      refine ra_lcmp E dL_law_2208 ?_
      refine ra_if_eq (tgt := 2214) E dL_law_2209 (by decide) (fun q9 => ?_) (fun q9 => ?_)
      · replace h := h.1 q9
        refine ra_goto (tgt := 3273) E dL_law_2214 (by decide) ?_
        exact ra_sub (L' := [(4, _), (3, _), (2, _), (1, _), (0, _)]) [2, 3, 4, 5, 6] rfl (ra_widen (k := cells + 16) (n := slots + 96) (by omega) (by omega) (hK _ h))
      · replace h := h.2 q9
        refine ra_iconst E dL_law_2212 ki_0 ?_
        exact h.elim
  · replace h := h.2 q7
    refine ra_iconst E dL_law_2195 ki_0 ?_
    exact h.elim
def f_law_42 (xs : Nat → Int32) (i : Int32) (M : TM) (K : TM → Prop) : Prop := f_L_journeyTime (xs (i + (1 : Int32)).toNatClampNeg) (xs (i + (2 : Int32)).toNatClampNeg) M (fun r2 M1 => f_X13_journeyTime (xs (i + (1 : Int32)).toNatClampNeg) (xs (i + (2 : Int32)).toNatClampNeg) M1 (fun r4 M3 => f_X13_thrown M3 (fun r6 M5 => ((r6 = r2 → ((¬ r2 = 0 → K M5) ∧ (r2 = 0 → (((lg_cmp (M5 710 0).toInt64 r4.toInt64) = 0 → K M5) ∧ (¬ (lg_cmp (M5 710 0).toInt64 r4.toInt64) = 0 → False))))) ∧ (¬ r6 = r2 → False)))))
set_option maxRecDepth 100000 in
set_option maxHeartbeats 4000000 in
theorem l_law_42 {p : Program} {l : Launch} {e : Env} {R : Room} {s : State} {m : MethodId} {args : Array Value} {below : List Frame} {meth : Method} {c : Code} {cells slots : Nat} {Q : State → Prop} {D : va_G} {tc : Nat → ClassId} {ad : Nat → Nat} {b Lx : Nat} {xs : Nat → Int32} {i : Int32} {K : TM → Prop} (E : Ev p s m args meth c D tc ad RL cL_law 9) (hfl : l.stackTraces = false) (hX : va_X b Lx xs s s.heap) (hbl : b < s.heap.size) (hbA : ¬ A0 ad s.heap.size b) (hw0 : vp_in i Lx) (hw1 : vp_in (i + (1 : Int32)) Lx) (hw2 : vp_in (i + (2 : Int32)) Lx) (hw3 : vp_in (i + (3 : Int32)) Lx) (hw4 : vp_in (i + (4 : Int32)) Lx) (hw5 : vp_in (i + (5 : Int32)) Lx) (hRm : 40 ≤ R.frames ∧ 1640 ≤ R.locals) (hcl : cells + 16 ≤ R.cells ∧ slots + 96 ≤ R.slots) (hK : ∀ M', K M' → Wa p l e R s m args below meth c (cells + 16) (slots + 96) Q D tc ad 9 M' 3273 [(4, .int i), (3, .ref (ad 710)), (2, .ref (ad 699)), (1, .ref (ad 0)), (0, .ref b)] []) (M : TM) (h : f_law_42 xs i M K) : Wa p l e R s m args below meth c cells slots Q D tc ad 9 M 2217 [(4, .int i), (3, .ref (ad 710)), (2, .ref (ad 699)), (1, .ref (ad 0)), (0, .ref b)] [] := by
  unfold f_law_42 at h
  refine ra_aload_n E dL_law_2217 rfl 3 rfl ?_
  refine ra_aload_n E dL_law_2218 rfl 4 rfl ?_
  refine ra_iload E dL_law_2219 0 rfl ?_
  refine ra_iconst E dL_law_2221 ki_1 ?_
  refine ra_iadd E dL_law_2222 ?_
  refine ra_sld E hX hbl hbA hw1 dL_law_2223 ?_
  refine ra_aload_n E dL_law_2224 rfl 4 rfl ?_
  refine ra_iload E dL_law_2225 0 rfl ?_
  refine ra_iconst E dL_law_2227 ki_2 ?_
  refine ra_iadd E dL_law_2228 ?_
  refine ra_sld E hX hbl hbA hw2 dL_law_2229 ?_
  refine ra_aload_n E dL_law_2230 rfl 1 rfl ?_
  refine rx_callW (rest := []) E hfl (c_L_journeyTime _ _ _ _ h) lq_L ctw_L_journeyTime ml_L_309 (by decide) rfl rfl (Nat.le_of_ble_eq_true rfl) ⟨by omega, by omega⟩ ⟨by omega, by omega⟩ dL_law_2231 (fun r2 M1 h => ?_)
  refine ra_istore (L' := [(5, _), (4, _), (3, _), (2, _), (1, _), (0, _)]) E dL_law_2234 (by decide) rfl ?_
  refine ra_aload_n E dL_law_2236 rfl 3 rfl ?_
  refine ra_aload_n E dL_law_2237 rfl 5 rfl ?_
  refine ra_iload E dL_law_2238 1 rfl ?_
  refine ra_iconst E dL_law_2240 ki_1 ?_
  refine ra_iadd E dL_law_2241 ?_
  refine ra_sld E hX hbl hbA hw1 dL_law_2242 ?_
  refine ra_aload_n E dL_law_2243 rfl 5 rfl ?_
  refine ra_iload E dL_law_2244 1 rfl ?_
  refine ra_iconst E dL_law_2246 ki_2 ?_
  refine ra_iadd E dL_law_2247 ?_
  refine ra_sld E hX hbl hbA hw2 dL_law_2248 ?_
  refine ra_callIV (rest := []) E (c_X13_journeyTime _ _ _ _ h) lq_13L cv_X13_journeyTime ml_L_311 (by decide) (lmL (k := 699) (by decide)) (fun R => ⟨_, cel_699 tc ad R⟩) rfl rfl rfl (Nat.le_of_ble_eq_true rfl) ⟨by omega, by omega⟩ ⟨by omega, by omega⟩ dL_law_2249 (fun r4 M3 h => ?_)
  refine ra_istore (L' := [(6, _), (5, _), (4, _), (3, _), (2, _), (1, _), (0, _)]) E dL_law_2252 (by decide) rfl ?_
  refine ra_aload_n E dL_law_2254 rfl 4 rfl ?_
  refine ra_callIV (rest := []) E (c_X13_thrown _ _ h) lq_13L cv_X13_thrown ml_L_170 (by decide) (lmL (k := 699) (by decide)) (fun R => ⟨_, cel_699 tc ad R⟩) rfl rfl rfl (Nat.le_of_ble_eq_true rfl) ⟨by omega, by omega⟩ ⟨by omega, by omega⟩ dL_law_2255 (fun r6 M5 h => ?_)
  refine ra_iload E dL_law_2258 1 rfl ?_
  refine ra_icmp_eq (tgt := 2265) E dL_law_2260 (by decide) (fun q7 => ?_) (fun q7 => ?_)
  · replace h := h.1 q7
    refine ra_iload E dL_law_2265 1 rfl ?_
    refine ra_if_ne (tgt := 2282) E dL_law_2267 (by decide) (fun q8 => ?_) (fun q8 => ?_)
    · replace h := h.1 q8
      refine ra_goto (tgt := 3273) E dL_law_2282 (by decide) ?_
      exact ra_sub (L' := [(4, _), (3, _), (2, _), (1, _), (0, _)]) [2, 3, 4, 5, 6] rfl (ra_widen (k := cells + 16) (n := slots + 96) (by omega) (by omega) (hK _ h))
    · replace h := h.2 q8
      refine ra_aload_n E dL_law_2270 rfl 3 rfl ?_
      refine ra_iconst E dL_law_2271 ki_0 ?_
      refine ra_lald E (lmL (by decide)) rfl dL_law_2272 ?_
      refine ra_iload E dL_law_2273 0 rfl ?_
      refine ra_i2l E dL_law_2275 rfl ?_
      refine ra_lcmp E dL_law_2276 ?_
      refine ra_if_eq (tgt := 2282) E dL_law_2277 (by decide) (fun q9 => ?_) (fun q9 => ?_)
      · replace h := h.1 q9
        refine ra_goto (tgt := 3273) E dL_law_2282 (by decide) ?_
        exact ra_sub (L' := [(4, _), (3, _), (2, _), (1, _), (0, _)]) [2, 3, 4, 5, 6] rfl (ra_widen (k := cells + 16) (n := slots + 96) (by omega) (by omega) (hK _ h))
      · replace h := h.2 q9
        refine ra_iconst E dL_law_2280 ki_0 ?_
        exact h.elim
  · replace h := h.2 q7
    refine ra_iconst E dL_law_2263 ki_0 ?_
    exact h.elim
def f_law_43 (xs : Nat → Int32) (i : Int32) (M : TM) (K : TM → Prop) : Prop := f_L_minutesToTarget (xs (i + (1 : Int32)).toNatClampNeg) M (fun r2 M1 => f_X13_minutesToTarget (xs (i + (1 : Int32)).toNatClampNeg) M1 (fun r4 M3 => f_X13_thrown M3 (fun r6 M5 => ((r6 = r2 → ((¬ r2 = 0 → K M5) ∧ (r2 = 0 → (((lg_cmp (M5 710 0).toInt64 r4.toInt64) = 0 → K M5) ∧ (¬ (lg_cmp (M5 710 0).toInt64 r4.toInt64) = 0 → False))))) ∧ (¬ r6 = r2 → False)))))
set_option maxRecDepth 100000 in
set_option maxHeartbeats 4000000 in
theorem l_law_43 {p : Program} {l : Launch} {e : Env} {R : Room} {s : State} {m : MethodId} {args : Array Value} {below : List Frame} {meth : Method} {c : Code} {cells slots : Nat} {Q : State → Prop} {D : va_G} {tc : Nat → ClassId} {ad : Nat → Nat} {b Lx : Nat} {xs : Nat → Int32} {i : Int32} {K : TM → Prop} (E : Ev p s m args meth c D tc ad RL cL_law 9) (hfl : l.stackTraces = false) (hX : va_X b Lx xs s s.heap) (hbl : b < s.heap.size) (hbA : ¬ A0 ad s.heap.size b) (hw0 : vp_in i Lx) (hw1 : vp_in (i + (1 : Int32)) Lx) (hw2 : vp_in (i + (2 : Int32)) Lx) (hw3 : vp_in (i + (3 : Int32)) Lx) (hw4 : vp_in (i + (4 : Int32)) Lx) (hw5 : vp_in (i + (5 : Int32)) Lx) (hRm : 40 ≤ R.frames ∧ 1640 ≤ R.locals) (hcl : cells + 16 ≤ R.cells ∧ slots + 96 ≤ R.slots) (hK : ∀ M', K M' → Wa p l e R s m args below meth c (cells + 16) (slots + 96) Q D tc ad 9 M' 3273 [(4, .int i), (3, .ref (ad 710)), (2, .ref (ad 699)), (1, .ref (ad 0)), (0, .ref b)] []) (M : TM) (h : f_law_43 xs i M K) : Wa p l e R s m args below meth c cells slots Q D tc ad 9 M 2285 [(4, .int i), (3, .ref (ad 710)), (2, .ref (ad 699)), (1, .ref (ad 0)), (0, .ref b)] [] := by
  unfold f_law_43 at h
  refine ra_aload_n E dL_law_2285 rfl 3 rfl ?_
  refine ra_aload_n E dL_law_2286 rfl 4 rfl ?_
  refine ra_iload E dL_law_2287 0 rfl ?_
  refine ra_iconst E dL_law_2289 ki_1 ?_
  refine ra_iadd E dL_law_2290 ?_
  refine ra_sld E hX hbl hbA hw1 dL_law_2291 ?_
  refine ra_aload_n E dL_law_2292 rfl 1 rfl ?_
  refine rx_callW (rest := []) E hfl (c_L_minutesToTarget _ _ _ h) lq_L ctw_L_minutesToTarget ml_L_312 (by decide) rfl rfl (Nat.le_of_ble_eq_true rfl) ⟨by omega, by omega⟩ ⟨by omega, by omega⟩ dL_law_2293 (fun r2 M1 h => ?_)
  refine ra_istore (L' := [(5, _), (4, _), (3, _), (2, _), (1, _), (0, _)]) E dL_law_2296 (by decide) rfl ?_
  refine ra_aload_n E dL_law_2298 rfl 3 rfl ?_
  refine ra_aload_n E dL_law_2299 rfl 5 rfl ?_
  refine ra_iload E dL_law_2300 1 rfl ?_
  refine ra_iconst E dL_law_2302 ki_1 ?_
  refine ra_iadd E dL_law_2303 ?_
  refine ra_sld E hX hbl hbA hw1 dL_law_2304 ?_
  refine ra_callIV (rest := []) E (c_X13_minutesToTarget _ _ _ h) lq_13L cv_X13_minutesToTarget ml_L_314 (by decide) (lmL (k := 699) (by decide)) (fun R => ⟨_, cel_699 tc ad R⟩) rfl rfl rfl (Nat.le_of_ble_eq_true rfl) ⟨by omega, by omega⟩ ⟨by omega, by omega⟩ dL_law_2305 (fun r4 M3 h => ?_)
  refine ra_istore (L' := [(6, _), (5, _), (4, _), (3, _), (2, _), (1, _), (0, _)]) E dL_law_2308 (by decide) rfl ?_
  refine ra_aload_n E dL_law_2310 rfl 4 rfl ?_
  refine ra_callIV (rest := []) E (c_X13_thrown _ _ h) lq_13L cv_X13_thrown ml_L_170 (by decide) (lmL (k := 699) (by decide)) (fun R => ⟨_, cel_699 tc ad R⟩) rfl rfl rfl (Nat.le_of_ble_eq_true rfl) ⟨by omega, by omega⟩ ⟨by omega, by omega⟩ dL_law_2311 (fun r6 M5 h => ?_)
  refine ra_iload E dL_law_2314 1 rfl ?_
  refine ra_icmp_eq (tgt := 2321) E dL_law_2316 (by decide) (fun q7 => ?_) (fun q7 => ?_)
  · replace h := h.1 q7
    refine ra_iload E dL_law_2321 1 rfl ?_
    refine ra_if_ne (tgt := 2338) E dL_law_2323 (by decide) (fun q8 => ?_) (fun q8 => ?_)
    · replace h := h.1 q8
      refine ra_goto (tgt := 3273) E dL_law_2338 (by decide) ?_
      exact ra_sub (L' := [(4, _), (3, _), (2, _), (1, _), (0, _)]) [2, 3, 4, 5, 6] rfl (ra_widen (k := cells + 16) (n := slots + 96) (by omega) (by omega) (hK _ h))
    · replace h := h.2 q8
      refine ra_aload_n E dL_law_2326 rfl 3 rfl ?_
      refine ra_iconst E dL_law_2327 ki_0 ?_
      refine ra_lald E (lmL (by decide)) rfl dL_law_2328 ?_
      refine ra_iload E dL_law_2329 0 rfl ?_
      refine ra_i2l E dL_law_2331 rfl ?_
      refine ra_lcmp E dL_law_2332 ?_
      refine ra_if_eq (tgt := 2338) E dL_law_2333 (by decide) (fun q9 => ?_) (fun q9 => ?_)
      · replace h := h.1 q9
        refine ra_goto (tgt := 3273) E dL_law_2338 (by decide) ?_
        exact ra_sub (L' := [(4, _), (3, _), (2, _), (1, _), (0, _)]) [2, 3, 4, 5, 6] rfl (ra_widen (k := cells + 16) (n := slots + 96) (by omega) (by omega) (hK _ h))
      · replace h := h.2 q9
        refine ra_iconst E dL_law_2336 ki_0 ?_
        exact h.elim
  · replace h := h.2 q7
    refine ra_iconst E dL_law_2319 ki_0 ?_
    exact h.elim
def f_law_44 (xs : Nat → Int32) (i : Int32) (M : TM) (K : TM → Prop) : Prop := f_L_willBeEaten (xs (i + (1 : Int32)).toNatClampNeg) M (fun r2 M1 => f_X13_willBeEaten (xs (i + (1 : Int32)).toNatClampNeg) M1 (fun r4 M3 => f_X13_thrown M3 (fun r7 M6 => ((r7 = r2 → ((¬ r2 = 0 → K M6) ∧ (r2 = 0 → ((r4 = 0 → (((lg_cmp (M6 710 0).toInt64 (0 : Int32).toInt64) = 0 → K M6) ∧ (¬ (lg_cmp (M6 710 0).toInt64 (0 : Int32).toInt64) = 0 → False))) ∧ (¬ r4 = 0 → (((lg_cmp (M6 710 0).toInt64 (1 : Int32).toInt64) = 0 → K M6) ∧ (¬ (lg_cmp (M6 710 0).toInt64 (1 : Int32).toInt64) = 0 → False))))))) ∧ (¬ r7 = r2 → False)))))
set_option maxRecDepth 100000 in
set_option maxHeartbeats 4000000 in
theorem l_law_44 {p : Program} {l : Launch} {e : Env} {R : Room} {s : State} {m : MethodId} {args : Array Value} {below : List Frame} {meth : Method} {c : Code} {cells slots : Nat} {Q : State → Prop} {D : va_G} {tc : Nat → ClassId} {ad : Nat → Nat} {b Lx : Nat} {xs : Nat → Int32} {i : Int32} {K : TM → Prop} (E : Ev p s m args meth c D tc ad RL cL_law 9) (hfl : l.stackTraces = false) (hX : va_X b Lx xs s s.heap) (hbl : b < s.heap.size) (hbA : ¬ A0 ad s.heap.size b) (hw0 : vp_in i Lx) (hw1 : vp_in (i + (1 : Int32)) Lx) (hw2 : vp_in (i + (2 : Int32)) Lx) (hw3 : vp_in (i + (3 : Int32)) Lx) (hw4 : vp_in (i + (4 : Int32)) Lx) (hw5 : vp_in (i + (5 : Int32)) Lx) (hRm : 40 ≤ R.frames ∧ 1640 ≤ R.locals) (hcl : cells + 16 ≤ R.cells ∧ slots + 96 ≤ R.slots) (hK : ∀ M', K M' → Wa p l e R s m args below meth c (cells + 16) (slots + 96) Q D tc ad 9 M' 3273 [(4, .int i), (3, .ref (ad 710)), (2, .ref (ad 699)), (1, .ref (ad 0)), (0, .ref b)] []) (M : TM) (h : f_law_44 xs i M K) : Wa p l e R s m args below meth c cells slots Q D tc ad 9 M 2341 [(4, .int i), (3, .ref (ad 710)), (2, .ref (ad 699)), (1, .ref (ad 0)), (0, .ref b)] [] := by
  unfold f_law_44 at h
  refine ra_aload_n E dL_law_2341 rfl 3 rfl ?_
  refine ra_aload_n E dL_law_2342 rfl 4 rfl ?_
  refine ra_iload E dL_law_2343 0 rfl ?_
  refine ra_iconst E dL_law_2345 ki_1 ?_
  refine ra_iadd E dL_law_2346 ?_
  refine ra_sld E hX hbl hbA hw1 dL_law_2347 ?_
  refine ra_aload_n E dL_law_2348 rfl 1 rfl ?_
  refine rx_callW (rest := []) E hfl (c_L_willBeEaten _ _ _ h) lq_L ctw_L_willBeEaten ml_L_315 (by decide) rfl rfl (Nat.le_of_ble_eq_true rfl) ⟨by omega, by omega⟩ ⟨by omega, by omega⟩ dL_law_2349 (fun r2 M1 h => ?_)
  refine ra_istore (L' := [(5, _), (4, _), (3, _), (2, _), (1, _), (0, _)]) E dL_law_2352 (by decide) rfl ?_
  refine ra_aload_n E dL_law_2354 rfl 3 rfl ?_
  refine ra_aload_n E dL_law_2355 rfl 5 rfl ?_
  refine ra_iload E dL_law_2356 1 rfl ?_
  refine ra_iconst E dL_law_2358 ki_1 ?_
  refine ra_iadd E dL_law_2359 ?_
  refine ra_sld E hX hbl hbA hw1 dL_law_2360 ?_
  refine ra_callIV (rest := []) E (c_X13_willBeEaten _ _ _ h) lq_13L cv_X13_willBeEaten ml_L_317 (by decide) (lmL (k := 699) (by decide)) (fun R => ⟨_, cel_699 tc ad R⟩) rfl rfl rfl (Nat.le_of_ble_eq_true rfl) ⟨by omega, by omega⟩ ⟨by omega, by omega⟩ dL_law_2361 (fun r4 M3 h => ?_)
  obtain ⟨b5, h⟩ := h
  refine ra_istore (L' := [(6, _), (5, _), (4, _), (3, _), (2, _), (1, _), (0, _)]) E dL_law_2364 (by decide) rfl ?_
  refine ra_aload_n E dL_law_2366 rfl 4 rfl ?_
  refine ra_callIV (rest := []) E (c_X13_thrown _ _ h) lq_13L cv_X13_thrown ml_L_170 (by decide) (lmL (k := 699) (by decide)) (fun R => ⟨_, cel_699 tc ad R⟩) rfl rfl rfl (Nat.le_of_ble_eq_true rfl) ⟨by omega, by omega⟩ ⟨by omega, by omega⟩ dL_law_2367 (fun r7 M6 h => ?_)
  refine ra_iload E dL_law_2370 1 rfl ?_
  refine ra_icmp_eq (tgt := 2377) E dL_law_2372 (by decide) (fun q8 => ?_) (fun q8 => ?_)
  · replace h := h.1 q8
    refine ra_iload E dL_law_2377 1 rfl ?_
    refine ra_if_ne (tgt := 2401) E dL_law_2379 (by decide) (fun q9 => ?_) (fun q9 => ?_)
    · replace h := h.1 q9
      refine ra_goto (tgt := 3273) E dL_law_2401 (by decide) ?_
      exact ra_sub (L' := [(4, _), (3, _), (2, _), (1, _), (0, _)]) [2, 3, 4, 5, 6] rfl (ra_widen (k := cells + 16) (n := slots + 96) (by omega) (by omega) (hK _ h))
    · replace h := h.2 q9
      refine ra_aload_n E dL_law_2382 rfl 3 rfl ?_
      refine ra_iconst E dL_law_2383 ki_0 ?_
      refine ra_lald E (lmL (by decide)) rfl dL_law_2384 ?_
      refine ra_iload E dL_law_2385 0 rfl ?_
      refine ra_if_eq (tgt := 2394) E dL_law_2387 (by decide) (fun q10 => ?_) (fun q10 => ?_)
      · replace h := h.1 q10
        refine ra_lconst (v := (0 : Int32).toInt64) E dL_law_2394 (by decide +kernel) ?_
        refine ra_lcmp E dL_law_2395 ?_
        refine ra_if_eq (tgt := 2401) E dL_law_2396 (by decide) (fun q11 => ?_) (fun q11 => ?_)
        · replace h := h.1 q11
          refine ra_goto (tgt := 3273) E dL_law_2401 (by decide) ?_
          exact ra_sub (L' := [(4, _), (3, _), (2, _), (1, _), (0, _)]) [2, 3, 4, 5, 6] rfl (ra_widen (k := cells + 16) (n := slots + 96) (by omega) (by omega) (hK _ h))
        · replace h := h.2 q11
          refine ra_iconst E dL_law_2399 ki_0 ?_
          exact h.elim
      · replace h := h.2 q10
        refine ra_lconst (v := (1 : Int32).toInt64) E dL_law_2390 (by decide +kernel) ?_
        refine ra_goto (tgt := 2395) E dL_law_2391 (by decide) ?_
        refine ra_lcmp E dL_law_2395 ?_
        refine ra_if_eq (tgt := 2401) E dL_law_2396 (by decide) (fun q12 => ?_) (fun q12 => ?_)
        · replace h := h.1 q12
          refine ra_goto (tgt := 3273) E dL_law_2401 (by decide) ?_
          exact ra_sub (L' := [(4, _), (3, _), (2, _), (1, _), (0, _)]) [2, 3, 4, 5, 6] rfl (ra_widen (k := cells + 16) (n := slots + 96) (by omega) (by omega) (hK _ h))
        · replace h := h.2 q12
          refine ra_iconst E dL_law_2399 ki_0 ?_
          exact h.elim
  · replace h := h.2 q8
    refine ra_iconst E dL_law_2375 ki_0 ?_
    exact h.elim
def f_law_45 (xs : Nat → Int32) (i : Int32) (M : TM) (K : TM → Prop) : Prop := f_L_coinsAfter (xs (i + (1 : Int32)).toNatClampNeg) M (fun r2 M1 => f_X13_coinsAfter (xs (i + (1 : Int32)).toNatClampNeg) M1 (fun r4 M3 => f_X13_thrown M3 (fun r6 M5 => ((r6 = r2 → ((¬ r2 = 0 → K M5) ∧ (r2 = 0 → (((lg_cmp (M5 710 0).toInt64 r4.toInt64) = 0 → K M5) ∧ (¬ (lg_cmp (M5 710 0).toInt64 r4.toInt64) = 0 → False))))) ∧ (¬ r6 = r2 → False)))))
set_option maxRecDepth 100000 in
set_option maxHeartbeats 4000000 in
theorem l_law_45 {p : Program} {l : Launch} {e : Env} {R : Room} {s : State} {m : MethodId} {args : Array Value} {below : List Frame} {meth : Method} {c : Code} {cells slots : Nat} {Q : State → Prop} {D : va_G} {tc : Nat → ClassId} {ad : Nat → Nat} {b Lx : Nat} {xs : Nat → Int32} {i : Int32} {K : TM → Prop} (E : Ev p s m args meth c D tc ad RL cL_law 9) (hfl : l.stackTraces = false) (hX : va_X b Lx xs s s.heap) (hbl : b < s.heap.size) (hbA : ¬ A0 ad s.heap.size b) (hw0 : vp_in i Lx) (hw1 : vp_in (i + (1 : Int32)) Lx) (hw2 : vp_in (i + (2 : Int32)) Lx) (hw3 : vp_in (i + (3 : Int32)) Lx) (hw4 : vp_in (i + (4 : Int32)) Lx) (hw5 : vp_in (i + (5 : Int32)) Lx) (hRm : 40 ≤ R.frames ∧ 1640 ≤ R.locals) (hcl : cells + 16 ≤ R.cells ∧ slots + 96 ≤ R.slots) (hK : ∀ M', K M' → Wa p l e R s m args below meth c (cells + 16) (slots + 96) Q D tc ad 9 M' 3273 [(4, .int i), (3, .ref (ad 710)), (2, .ref (ad 699)), (1, .ref (ad 0)), (0, .ref b)] []) (M : TM) (h : f_law_45 xs i M K) : Wa p l e R s m args below meth c cells slots Q D tc ad 9 M 2404 [(4, .int i), (3, .ref (ad 710)), (2, .ref (ad 699)), (1, .ref (ad 0)), (0, .ref b)] [] := by
  unfold f_law_45 at h
  refine ra_aload_n E dL_law_2404 rfl 3 rfl ?_
  refine ra_aload_n E dL_law_2405 rfl 4 rfl ?_
  refine ra_iload E dL_law_2406 0 rfl ?_
  refine ra_iconst E dL_law_2408 ki_1 ?_
  refine ra_iadd E dL_law_2409 ?_
  refine ra_sld E hX hbl hbA hw1 dL_law_2410 ?_
  refine ra_aload_n E dL_law_2411 rfl 1 rfl ?_
  refine rx_callW (rest := []) E hfl (c_L_coinsAfter _ _ _ h) lq_L ctw_L_coinsAfter ml_L_318 (by decide) rfl rfl (Nat.le_of_ble_eq_true rfl) ⟨by omega, by omega⟩ ⟨by omega, by omega⟩ dL_law_2412 (fun r2 M1 h => ?_)
  refine ra_istore (L' := [(5, _), (4, _), (3, _), (2, _), (1, _), (0, _)]) E dL_law_2415 (by decide) rfl ?_
  refine ra_aload_n E dL_law_2417 rfl 3 rfl ?_
  refine ra_aload_n E dL_law_2418 rfl 5 rfl ?_
  refine ra_iload E dL_law_2419 1 rfl ?_
  refine ra_iconst E dL_law_2421 ki_1 ?_
  refine ra_iadd E dL_law_2422 ?_
  refine ra_sld E hX hbl hbA hw1 dL_law_2423 ?_
  refine ra_callIV (rest := []) E (c_X13_coinsAfter _ _ _ h) lq_13L cv_X13_coinsAfter ml_L_320 (by decide) (lmL (k := 699) (by decide)) (fun R => ⟨_, cel_699 tc ad R⟩) rfl rfl rfl (Nat.le_of_ble_eq_true rfl) ⟨by omega, by omega⟩ ⟨by omega, by omega⟩ dL_law_2424 (fun r4 M3 h => ?_)
  refine ra_istore (L' := [(6, _), (5, _), (4, _), (3, _), (2, _), (1, _), (0, _)]) E dL_law_2427 (by decide) rfl ?_
  refine ra_aload_n E dL_law_2429 rfl 4 rfl ?_
  refine ra_callIV (rest := []) E (c_X13_thrown _ _ h) lq_13L cv_X13_thrown ml_L_170 (by decide) (lmL (k := 699) (by decide)) (fun R => ⟨_, cel_699 tc ad R⟩) rfl rfl rfl (Nat.le_of_ble_eq_true rfl) ⟨by omega, by omega⟩ ⟨by omega, by omega⟩ dL_law_2430 (fun r6 M5 h => ?_)
  refine ra_iload E dL_law_2433 1 rfl ?_
  refine ra_icmp_eq (tgt := 2440) E dL_law_2435 (by decide) (fun q7 => ?_) (fun q7 => ?_)
  · replace h := h.1 q7
    refine ra_iload E dL_law_2440 1 rfl ?_
    refine ra_if_ne (tgt := 2457) E dL_law_2442 (by decide) (fun q8 => ?_) (fun q8 => ?_)
    · replace h := h.1 q8
      refine ra_goto (tgt := 3273) E dL_law_2457 (by decide) ?_
      exact ra_sub (L' := [(4, _), (3, _), (2, _), (1, _), (0, _)]) [2, 3, 4, 5, 6] rfl (ra_widen (k := cells + 16) (n := slots + 96) (by omega) (by omega) (hK _ h))
    · replace h := h.2 q8
      refine ra_aload_n E dL_law_2445 rfl 3 rfl ?_
      refine ra_iconst E dL_law_2446 ki_0 ?_
      refine ra_lald E (lmL (by decide)) rfl dL_law_2447 ?_
      refine ra_iload E dL_law_2448 0 rfl ?_
      refine ra_i2l E dL_law_2450 rfl ?_
      refine ra_lcmp E dL_law_2451 ?_
      refine ra_if_eq (tgt := 2457) E dL_law_2452 (by decide) (fun q9 => ?_) (fun q9 => ?_)
      · replace h := h.1 q9
        refine ra_goto (tgt := 3273) E dL_law_2457 (by decide) ?_
        exact ra_sub (L' := [(4, _), (3, _), (2, _), (1, _), (0, _)]) [2, 3, 4, 5, 6] rfl (ra_widen (k := cells + 16) (n := slots + 96) (by omega) (by omega) (hK _ h))
      · replace h := h.2 q9
        refine ra_iconst E dL_law_2455 ki_0 ?_
        exact h.elim
  · replace h := h.2 q7
    refine ra_iconst E dL_law_2438 ki_0 ?_
    exact h.elim
def f_law_46 (xs : Nat → Int32) (i : Int32) (M : TM) (K : TM → Prop) : Prop := f_L_nearestBarge (xs (i + (1 : Int32)).toNatClampNeg) M (fun r2 M1 => f_X13_nearestBarge (xs (i + (1 : Int32)).toNatClampNeg) M1 (fun r4 M3 => f_X13_thrown M3 (fun r6 M5 => ((r6 = r2 → ((¬ r2 = 0 → K M5) ∧ (r2 = 0 → (((lg_cmp (M5 710 0).toInt64 r4.toInt64) = 0 → K M5) ∧ (¬ (lg_cmp (M5 710 0).toInt64 r4.toInt64) = 0 → False))))) ∧ (¬ r6 = r2 → False)))))
set_option maxRecDepth 100000 in
set_option maxHeartbeats 4000000 in
theorem l_law_46 {p : Program} {l : Launch} {e : Env} {R : Room} {s : State} {m : MethodId} {args : Array Value} {below : List Frame} {meth : Method} {c : Code} {cells slots : Nat} {Q : State → Prop} {D : va_G} {tc : Nat → ClassId} {ad : Nat → Nat} {b Lx : Nat} {xs : Nat → Int32} {i : Int32} {K : TM → Prop} (E : Ev p s m args meth c D tc ad RL cL_law 9) (hfl : l.stackTraces = false) (hX : va_X b Lx xs s s.heap) (hbl : b < s.heap.size) (hbA : ¬ A0 ad s.heap.size b) (hw0 : vp_in i Lx) (hw1 : vp_in (i + (1 : Int32)) Lx) (hw2 : vp_in (i + (2 : Int32)) Lx) (hw3 : vp_in (i + (3 : Int32)) Lx) (hw4 : vp_in (i + (4 : Int32)) Lx) (hw5 : vp_in (i + (5 : Int32)) Lx) (hRm : 40 ≤ R.frames ∧ 1640 ≤ R.locals) (hcl : cells + 16 ≤ R.cells ∧ slots + 96 ≤ R.slots) (hK : ∀ M', K M' → Wa p l e R s m args below meth c (cells + 16) (slots + 96) Q D tc ad 9 M' 3273 [(4, .int i), (3, .ref (ad 710)), (2, .ref (ad 699)), (1, .ref (ad 0)), (0, .ref b)] []) (M : TM) (h : f_law_46 xs i M K) : Wa p l e R s m args below meth c cells slots Q D tc ad 9 M 2460 [(4, .int i), (3, .ref (ad 710)), (2, .ref (ad 699)), (1, .ref (ad 0)), (0, .ref b)] [] := by
  unfold f_law_46 at h
  refine ra_aload_n E dL_law_2460 rfl 3 rfl ?_
  refine ra_aload_n E dL_law_2461 rfl 4 rfl ?_
  refine ra_iload E dL_law_2462 0 rfl ?_
  refine ra_iconst E dL_law_2464 ki_1 ?_
  refine ra_iadd E dL_law_2465 ?_
  refine ra_sld E hX hbl hbA hw1 dL_law_2466 ?_
  refine ra_aload_n E dL_law_2467 rfl 1 rfl ?_
  refine rx_callW (rest := []) E hfl (c_L_nearestBarge _ _ _ h) lq_L ctw_L_nearestBarge ml_L_321 (by decide) rfl rfl (Nat.le_of_ble_eq_true rfl) ⟨by omega, by omega⟩ ⟨by omega, by omega⟩ dL_law_2468 (fun r2 M1 h => ?_)
  refine ra_istore (L' := [(5, _), (4, _), (3, _), (2, _), (1, _), (0, _)]) E dL_law_2471 (by decide) rfl ?_
  refine ra_aload_n E dL_law_2473 rfl 3 rfl ?_
  refine ra_aload_n E dL_law_2474 rfl 5 rfl ?_
  refine ra_iload E dL_law_2475 1 rfl ?_
  refine ra_iconst E dL_law_2477 ki_1 ?_
  refine ra_iadd E dL_law_2478 ?_
  refine ra_sld E hX hbl hbA hw1 dL_law_2479 ?_
  refine ra_callIV (rest := []) E (c_X13_nearestBarge _ _ _ h) lq_13L cv_X13_nearestBarge ml_L_323 (by decide) (lmL (k := 699) (by decide)) (fun R => ⟨_, cel_699 tc ad R⟩) rfl rfl rfl (Nat.le_of_ble_eq_true rfl) ⟨by omega, by omega⟩ ⟨by omega, by omega⟩ dL_law_2480 (fun r4 M3 h => ?_)
  refine ra_istore (L' := [(6, _), (5, _), (4, _), (3, _), (2, _), (1, _), (0, _)]) E dL_law_2483 (by decide) rfl ?_
  refine ra_aload_n E dL_law_2485 rfl 4 rfl ?_
  refine ra_callIV (rest := []) E (c_X13_thrown _ _ h) lq_13L cv_X13_thrown ml_L_170 (by decide) (lmL (k := 699) (by decide)) (fun R => ⟨_, cel_699 tc ad R⟩) rfl rfl rfl (Nat.le_of_ble_eq_true rfl) ⟨by omega, by omega⟩ ⟨by omega, by omega⟩ dL_law_2486 (fun r6 M5 h => ?_)
  refine ra_iload E dL_law_2489 1 rfl ?_
  refine ra_icmp_eq (tgt := 2496) E dL_law_2491 (by decide) (fun q7 => ?_) (fun q7 => ?_)
  · replace h := h.1 q7
    refine ra_iload E dL_law_2496 1 rfl ?_
    refine ra_if_ne (tgt := 2513) E dL_law_2498 (by decide) (fun q8 => ?_) (fun q8 => ?_)
    · replace h := h.1 q8
      refine ra_goto (tgt := 3273) E dL_law_2513 (by decide) ?_
      exact ra_sub (L' := [(4, _), (3, _), (2, _), (1, _), (0, _)]) [2, 3, 4, 5, 6] rfl (ra_widen (k := cells + 16) (n := slots + 96) (by omega) (by omega) (hK _ h))
    · replace h := h.2 q8
      refine ra_aload_n E dL_law_2501 rfl 3 rfl ?_
      refine ra_iconst E dL_law_2502 ki_0 ?_
      refine ra_lald E (lmL (by decide)) rfl dL_law_2503 ?_
      refine ra_iload E dL_law_2504 0 rfl ?_
      refine ra_i2l E dL_law_2506 rfl ?_
      refine ra_lcmp E dL_law_2507 ?_
      refine ra_if_eq (tgt := 2513) E dL_law_2508 (by decide) (fun q9 => ?_) (fun q9 => ?_)
      · replace h := h.1 q9
        refine ra_goto (tgt := 3273) E dL_law_2513 (by decide) ?_
        exact ra_sub (L' := [(4, _), (3, _), (2, _), (1, _), (0, _)]) [2, 3, 4, 5, 6] rfl (ra_widen (k := cells + 16) (n := slots + 96) (by omega) (by omega) (hK _ h))
      · replace h := h.2 q9
        refine ra_iconst E dL_law_2511 ki_0 ?_
        exact h.elim
  · replace h := h.2 q7
    refine ra_iconst E dL_law_2494 ki_0 ?_
    exact h.elim
def f_law_47 (xs : Nat → Int32) (i : Int32) (M : TM) (K : TM → Prop) : Prop := f_L_sail (xs (i + (1 : Int32)).toNatClampNeg) (xs (i + (2 : Int32)).toNatClampNeg) M (fun r2 M1 => f_X13_sail (xs (i + (1 : Int32)).toNatClampNeg) (xs (i + (2 : Int32)).toNatClampNeg) M1 (fun r4 M3 => f_X13_thrown M3 (fun r6 M5 => ((r6 = r2 → ((¬ r2 = 0 → K M5) ∧ (r2 = 0 → (((lg_cmp (M5 710 0).toInt64 r4.toInt64) = 0 → K M5) ∧ (¬ (lg_cmp (M5 710 0).toInt64 r4.toInt64) = 0 → False))))) ∧ (¬ r6 = r2 → False)))))
set_option maxRecDepth 100000 in
set_option maxHeartbeats 4000000 in
theorem l_law_47 {p : Program} {l : Launch} {e : Env} {R : Room} {s : State} {m : MethodId} {args : Array Value} {below : List Frame} {meth : Method} {c : Code} {cells slots : Nat} {Q : State → Prop} {D : va_G} {tc : Nat → ClassId} {ad : Nat → Nat} {b Lx : Nat} {xs : Nat → Int32} {i : Int32} {K : TM → Prop} (E : Ev p s m args meth c D tc ad RL cL_law 9) (hfl : l.stackTraces = false) (hX : va_X b Lx xs s s.heap) (hbl : b < s.heap.size) (hbA : ¬ A0 ad s.heap.size b) (hw0 : vp_in i Lx) (hw1 : vp_in (i + (1 : Int32)) Lx) (hw2 : vp_in (i + (2 : Int32)) Lx) (hw3 : vp_in (i + (3 : Int32)) Lx) (hw4 : vp_in (i + (4 : Int32)) Lx) (hw5 : vp_in (i + (5 : Int32)) Lx) (hRm : 40 ≤ R.frames ∧ 1640 ≤ R.locals) (hcl : cells + 16 ≤ R.cells ∧ slots + 96 ≤ R.slots) (hK : ∀ M', K M' → Wa p l e R s m args below meth c (cells + 16) (slots + 96) Q D tc ad 9 M' 3273 [(4, .int i), (3, .ref (ad 710)), (2, .ref (ad 699)), (1, .ref (ad 0)), (0, .ref b)] []) (M : TM) (h : f_law_47 xs i M K) : Wa p l e R s m args below meth c cells slots Q D tc ad 9 M 2516 [(4, .int i), (3, .ref (ad 710)), (2, .ref (ad 699)), (1, .ref (ad 0)), (0, .ref b)] [] := by
  unfold f_law_47 at h
  refine ra_aload_n E dL_law_2516 rfl 3 rfl ?_
  refine ra_aload_n E dL_law_2517 rfl 4 rfl ?_
  refine ra_iload E dL_law_2518 0 rfl ?_
  refine ra_iconst E dL_law_2520 ki_1 ?_
  refine ra_iadd E dL_law_2521 ?_
  refine ra_sld E hX hbl hbA hw1 dL_law_2522 ?_
  refine ra_aload_n E dL_law_2523 rfl 4 rfl ?_
  refine ra_iload E dL_law_2524 0 rfl ?_
  refine ra_iconst E dL_law_2526 ki_2 ?_
  refine ra_iadd E dL_law_2527 ?_
  refine ra_sld E hX hbl hbA hw2 dL_law_2528 ?_
  refine ra_aload_n E dL_law_2529 rfl 1 rfl ?_
  refine rx_callW (rest := []) E hfl (c_L_sail _ _ _ _ h) lq_L ctw_L_sail ml_L_324 (by decide) rfl rfl (Nat.le_of_ble_eq_true rfl) ⟨by omega, by omega⟩ ⟨by omega, by omega⟩ dL_law_2530 (fun r2 M1 h => ?_)
  refine ra_istore (L' := [(5, _), (4, _), (3, _), (2, _), (1, _), (0, _)]) E dL_law_2533 (by decide) rfl ?_
  refine ra_aload_n E dL_law_2535 rfl 3 rfl ?_
  refine ra_aload_n E dL_law_2536 rfl 5 rfl ?_
  refine ra_iload E dL_law_2537 1 rfl ?_
  refine ra_iconst E dL_law_2539 ki_1 ?_
  refine ra_iadd E dL_law_2540 ?_
  refine ra_sld E hX hbl hbA hw1 dL_law_2541 ?_
  refine ra_aload_n E dL_law_2542 rfl 5 rfl ?_
  refine ra_iload E dL_law_2543 1 rfl ?_
  refine ra_iconst E dL_law_2545 ki_2 ?_
  refine ra_iadd E dL_law_2546 ?_
  refine ra_sld E hX hbl hbA hw2 dL_law_2547 ?_
  refine ra_callIV (rest := []) E (c_X13_sail _ _ _ _ h) lq_13L cv_X13_sail ml_L_326 (by decide) (lmL (k := 699) (by decide)) (fun R => ⟨_, cel_699 tc ad R⟩) rfl rfl rfl (Nat.le_of_ble_eq_true rfl) ⟨by omega, by omega⟩ ⟨by omega, by omega⟩ dL_law_2548 (fun r4 M3 h => ?_)
  refine ra_istore (L' := [(6, _), (5, _), (4, _), (3, _), (2, _), (1, _), (0, _)]) E dL_law_2551 (by decide) rfl ?_
  refine ra_aload_n E dL_law_2553 rfl 4 rfl ?_
  refine ra_callIV (rest := []) E (c_X13_thrown _ _ h) lq_13L cv_X13_thrown ml_L_170 (by decide) (lmL (k := 699) (by decide)) (fun R => ⟨_, cel_699 tc ad R⟩) rfl rfl rfl (Nat.le_of_ble_eq_true rfl) ⟨by omega, by omega⟩ ⟨by omega, by omega⟩ dL_law_2554 (fun r6 M5 h => ?_)
  refine ra_iload E dL_law_2557 1 rfl ?_
  refine ra_icmp_eq (tgt := 2564) E dL_law_2559 (by decide) (fun q7 => ?_) (fun q7 => ?_)
  · replace h := h.1 q7
    refine ra_iload E dL_law_2564 1 rfl ?_
    refine ra_if_ne (tgt := 2581) E dL_law_2566 (by decide) (fun q8 => ?_) (fun q8 => ?_)
    · replace h := h.1 q8
      refine ra_goto (tgt := 3273) E dL_law_2581 (by decide) ?_
      exact ra_sub (L' := [(4, _), (3, _), (2, _), (1, _), (0, _)]) [2, 3, 4, 5, 6] rfl (ra_widen (k := cells + 16) (n := slots + 96) (by omega) (by omega) (hK _ h))
    · replace h := h.2 q8
      refine ra_aload_n E dL_law_2569 rfl 3 rfl ?_
      refine ra_iconst E dL_law_2570 ki_0 ?_
      refine ra_lald E (lmL (by decide)) rfl dL_law_2571 ?_
      refine ra_iload E dL_law_2572 0 rfl ?_
      refine ra_i2l E dL_law_2574 rfl ?_
      refine ra_lcmp E dL_law_2575 ?_
      refine ra_if_eq (tgt := 2581) E dL_law_2576 (by decide) (fun q9 => ?_) (fun q9 => ?_)
      · replace h := h.1 q9
        refine ra_goto (tgt := 3273) E dL_law_2581 (by decide) ?_
        exact ra_sub (L' := [(4, _), (3, _), (2, _), (1, _), (0, _)]) [2, 3, 4, 5, 6] rfl (ra_widen (k := cells + 16) (n := slots + 96) (by omega) (by omega) (hK _ h))
      · replace h := h.2 q9
        refine ra_iconst E dL_law_2579 ki_0 ?_
        exact h.elim
  · replace h := h.2 q7
    refine ra_iconst E dL_law_2562 ki_0 ?_
    exact h.elim
def f_law_48 (xs : Nat → Int32) (i : Int32) (M : TM) (K : TM → Prop) : Prop := f_L_makeOrder (xs (i + (1 : Int32)).toNatClampNeg) (xs (i + (2 : Int32)).toNatClampNeg) (xs (i + (3 : Int32)).toNatClampNeg) (xs (i + (4 : Int32)).toNatClampNeg) M (fun r2 M1 => f_X13_makeOrder (xs (i + (1 : Int32)).toNatClampNeg) (xs (i + (2 : Int32)).toNatClampNeg) (xs (i + (3 : Int32)).toNatClampNeg) (xs (i + (4 : Int32)).toNatClampNeg) M1 (fun r4 M3 => f_X13_thrown M3 (fun r6 M5 => ((r6 = r2 → ((¬ r2 = 0 → K M5) ∧ (r2 = 0 → (((lg_cmp (M5 710 0).toInt64 r4.toInt64) = 0 → K M5) ∧ (¬ (lg_cmp (M5 710 0).toInt64 r4.toInt64) = 0 → False))))) ∧ (¬ r6 = r2 → False)))))
set_option maxRecDepth 100000 in
set_option maxHeartbeats 4000000 in
theorem l_law_48 {p : Program} {l : Launch} {e : Env} {R : Room} {s : State} {m : MethodId} {args : Array Value} {below : List Frame} {meth : Method} {c : Code} {cells slots : Nat} {Q : State → Prop} {D : va_G} {tc : Nat → ClassId} {ad : Nat → Nat} {b Lx : Nat} {xs : Nat → Int32} {i : Int32} {K : TM → Prop} (E : Ev p s m args meth c D tc ad RL cL_law 9) (hfl : l.stackTraces = false) (hX : va_X b Lx xs s s.heap) (hbl : b < s.heap.size) (hbA : ¬ A0 ad s.heap.size b) (hw0 : vp_in i Lx) (hw1 : vp_in (i + (1 : Int32)) Lx) (hw2 : vp_in (i + (2 : Int32)) Lx) (hw3 : vp_in (i + (3 : Int32)) Lx) (hw4 : vp_in (i + (4 : Int32)) Lx) (hw5 : vp_in (i + (5 : Int32)) Lx) (hRm : 40 ≤ R.frames ∧ 1640 ≤ R.locals) (hcl : cells + 16 ≤ R.cells ∧ slots + 96 ≤ R.slots) (hK : ∀ M', K M' → Wa p l e R s m args below meth c (cells + 16) (slots + 96) Q D tc ad 9 M' 3273 [(4, .int i), (3, .ref (ad 710)), (2, .ref (ad 699)), (1, .ref (ad 0)), (0, .ref b)] []) (M : TM) (h : f_law_48 xs i M K) : Wa p l e R s m args below meth c cells slots Q D tc ad 9 M 2584 [(4, .int i), (3, .ref (ad 710)), (2, .ref (ad 699)), (1, .ref (ad 0)), (0, .ref b)] [] := by
  unfold f_law_48 at h
  refine ra_aload_n E dL_law_2584 rfl 3 rfl ?_
  refine ra_aload_n E dL_law_2585 rfl 4 rfl ?_
  refine ra_iload E dL_law_2586 0 rfl ?_
  refine ra_iconst E dL_law_2588 ki_1 ?_
  refine ra_iadd E dL_law_2589 ?_
  refine ra_sld E hX hbl hbA hw1 dL_law_2590 ?_
  refine ra_aload_n E dL_law_2591 rfl 4 rfl ?_
  refine ra_iload E dL_law_2592 0 rfl ?_
  refine ra_iconst E dL_law_2594 ki_2 ?_
  refine ra_iadd E dL_law_2595 ?_
  refine ra_sld E hX hbl hbA hw2 dL_law_2596 ?_
  refine ra_aload_n E dL_law_2597 rfl 4 rfl ?_
  refine ra_iload E dL_law_2598 0 rfl ?_
  refine ra_iconst E dL_law_2600 ki_3 ?_
  refine ra_iadd E dL_law_2601 ?_
  refine ra_sld E hX hbl hbA hw3 dL_law_2602 ?_
  refine ra_aload_n E dL_law_2603 rfl 4 rfl ?_
  refine ra_iload E dL_law_2604 0 rfl ?_
  refine ra_iconst E dL_law_2606 ki_4 ?_
  refine ra_iadd E dL_law_2607 ?_
  refine ra_sld E hX hbl hbA hw4 dL_law_2608 ?_
  refine ra_aload_n E dL_law_2609 rfl 1 rfl ?_
  refine rx_callW (rest := []) E hfl (c_L_makeOrder _ _ _ _ _ _ h) lq_L ctw_L_makeOrder ml_L_327 (by decide) rfl rfl (Nat.le_of_ble_eq_true rfl) ⟨by omega, by omega⟩ ⟨by omega, by omega⟩ dL_law_2610 (fun r2 M1 h => ?_)
  refine ra_istore (L' := [(5, _), (4, _), (3, _), (2, _), (1, _), (0, _)]) E dL_law_2613 (by decide) rfl ?_
  refine ra_aload_n E dL_law_2615 rfl 3 rfl ?_
  refine ra_aload_n E dL_law_2616 rfl 5 rfl ?_
  refine ra_iload E dL_law_2617 1 rfl ?_
  refine ra_iconst E dL_law_2619 ki_1 ?_
  refine ra_iadd E dL_law_2620 ?_
  refine ra_sld E hX hbl hbA hw1 dL_law_2621 ?_
  refine ra_aload_n E dL_law_2622 rfl 5 rfl ?_
  refine ra_iload E dL_law_2623 1 rfl ?_
  refine ra_iconst E dL_law_2625 ki_2 ?_
  refine ra_iadd E dL_law_2626 ?_
  refine ra_sld E hX hbl hbA hw2 dL_law_2627 ?_
  refine ra_aload_n E dL_law_2628 rfl 5 rfl ?_
  refine ra_iload E dL_law_2629 1 rfl ?_
  refine ra_iconst E dL_law_2631 ki_3 ?_
  refine ra_iadd E dL_law_2632 ?_
  refine ra_sld E hX hbl hbA hw3 dL_law_2633 ?_
  refine ra_aload_n E dL_law_2634 rfl 5 rfl ?_
  refine ra_iload E dL_law_2635 1 rfl ?_
  refine ra_iconst E dL_law_2637 ki_4 ?_
  refine ra_iadd E dL_law_2638 ?_
  refine ra_sld E hX hbl hbA hw4 dL_law_2639 ?_
  refine ra_callIV (rest := []) E (c_X13_makeOrder _ _ _ _ _ _ h) lq_13L cv_X13_makeOrder ml_L_330 (by decide) (lmL (k := 699) (by decide)) (fun R => ⟨_, cel_699 tc ad R⟩) rfl rfl rfl (Nat.le_of_ble_eq_true rfl) ⟨by omega, by omega⟩ ⟨by omega, by omega⟩ dL_law_2640 (fun r4 M3 h => ?_)
  refine ra_istore (L' := [(6, _), (5, _), (4, _), (3, _), (2, _), (1, _), (0, _)]) E dL_law_2643 (by decide) rfl ?_
  refine ra_aload_n E dL_law_2645 rfl 4 rfl ?_
  refine ra_callIV (rest := []) E (c_X13_thrown _ _ h) lq_13L cv_X13_thrown ml_L_170 (by decide) (lmL (k := 699) (by decide)) (fun R => ⟨_, cel_699 tc ad R⟩) rfl rfl rfl (Nat.le_of_ble_eq_true rfl) ⟨by omega, by omega⟩ ⟨by omega, by omega⟩ dL_law_2646 (fun r6 M5 h => ?_)
  refine ra_iload E dL_law_2649 1 rfl ?_
  refine ra_icmp_eq (tgt := 2656) E dL_law_2651 (by decide) (fun q7 => ?_) (fun q7 => ?_)
  · replace h := h.1 q7
    refine ra_iload E dL_law_2656 1 rfl ?_
    refine ra_if_ne (tgt := 2673) E dL_law_2658 (by decide) (fun q8 => ?_) (fun q8 => ?_)
    · replace h := h.1 q8
      refine ra_goto (tgt := 3273) E dL_law_2673 (by decide) ?_
      exact ra_sub (L' := [(4, _), (3, _), (2, _), (1, _), (0, _)]) [2, 3, 4, 5, 6] rfl (ra_widen (k := cells + 16) (n := slots + 96) (by omega) (by omega) (hK _ h))
    · replace h := h.2 q8
      refine ra_aload_n E dL_law_2661 rfl 3 rfl ?_
      refine ra_iconst E dL_law_2662 ki_0 ?_
      refine ra_lald E (lmL (by decide)) rfl dL_law_2663 ?_
      refine ra_iload E dL_law_2664 0 rfl ?_
      refine ra_i2l E dL_law_2666 rfl ?_
      refine ra_lcmp E dL_law_2667 ?_
      refine ra_if_eq (tgt := 2673) E dL_law_2668 (by decide) (fun q9 => ?_) (fun q9 => ?_)
      · replace h := h.1 q9
        refine ra_goto (tgt := 3273) E dL_law_2673 (by decide) ?_
        exact ra_sub (L' := [(4, _), (3, _), (2, _), (1, _), (0, _)]) [2, 3, 4, 5, 6] rfl (ra_widen (k := cells + 16) (n := slots + 96) (by omega) (by omega) (hK _ h))
      · replace h := h.2 q9
        refine ra_iconst E dL_law_2671 ki_0 ?_
        exact h.elim
  · replace h := h.2 q7
    refine ra_iconst E dL_law_2654 ki_0 ?_
    exact h.elim
def f_law_49 (xs : Nat → Int32) (i : Int32) (M : TM) (K : TM → Prop) : Prop := f_L_take (xs (i + (1 : Int32)).toNatClampNeg) (xs (i + (2 : Int32)).toNatClampNeg) M (fun r2 M1 => f_X13_take (xs (i + (1 : Int32)).toNatClampNeg) (xs (i + (2 : Int32)).toNatClampNeg) M1 (fun r4 M3 => f_X13_thrown M3 (fun r6 M5 => ((r6 = r2 → ((¬ r2 = 0 → K M5) ∧ (r2 = 0 → (((lg_cmp (M5 710 0).toInt64 r4.toInt64) = 0 → K M5) ∧ (¬ (lg_cmp (M5 710 0).toInt64 r4.toInt64) = 0 → False))))) ∧ (¬ r6 = r2 → False)))))
set_option maxRecDepth 100000 in
set_option maxHeartbeats 4000000 in
theorem l_law_49 {p : Program} {l : Launch} {e : Env} {R : Room} {s : State} {m : MethodId} {args : Array Value} {below : List Frame} {meth : Method} {c : Code} {cells slots : Nat} {Q : State → Prop} {D : va_G} {tc : Nat → ClassId} {ad : Nat → Nat} {b Lx : Nat} {xs : Nat → Int32} {i : Int32} {K : TM → Prop} (E : Ev p s m args meth c D tc ad RL cL_law 9) (hfl : l.stackTraces = false) (hX : va_X b Lx xs s s.heap) (hbl : b < s.heap.size) (hbA : ¬ A0 ad s.heap.size b) (hw0 : vp_in i Lx) (hw1 : vp_in (i + (1 : Int32)) Lx) (hw2 : vp_in (i + (2 : Int32)) Lx) (hw3 : vp_in (i + (3 : Int32)) Lx) (hw4 : vp_in (i + (4 : Int32)) Lx) (hw5 : vp_in (i + (5 : Int32)) Lx) (hRm : 40 ≤ R.frames ∧ 1640 ≤ R.locals) (hcl : cells + 16 ≤ R.cells ∧ slots + 96 ≤ R.slots) (hK : ∀ M', K M' → Wa p l e R s m args below meth c (cells + 16) (slots + 96) Q D tc ad 9 M' 3273 [(4, .int i), (3, .ref (ad 710)), (2, .ref (ad 699)), (1, .ref (ad 0)), (0, .ref b)] []) (M : TM) (h : f_law_49 xs i M K) : Wa p l e R s m args below meth c cells slots Q D tc ad 9 M 2676 [(4, .int i), (3, .ref (ad 710)), (2, .ref (ad 699)), (1, .ref (ad 0)), (0, .ref b)] [] := by
  unfold f_law_49 at h
  refine ra_aload_n E dL_law_2676 rfl 3 rfl ?_
  refine ra_aload_n E dL_law_2677 rfl 4 rfl ?_
  refine ra_iload E dL_law_2678 0 rfl ?_
  refine ra_iconst E dL_law_2680 ki_1 ?_
  refine ra_iadd E dL_law_2681 ?_
  refine ra_sld E hX hbl hbA hw1 dL_law_2682 ?_
  refine ra_aload_n E dL_law_2683 rfl 4 rfl ?_
  refine ra_iload E dL_law_2684 0 rfl ?_
  refine ra_iconst E dL_law_2686 ki_2 ?_
  refine ra_iadd E dL_law_2687 ?_
  refine ra_sld E hX hbl hbA hw2 dL_law_2688 ?_
  refine ra_aload_n E dL_law_2689 rfl 1 rfl ?_
  refine rx_callW (rest := []) E hfl (c_L_take _ _ _ _ h) lq_L ctw_L_take ml_L_331 (by decide) rfl rfl (Nat.le_of_ble_eq_true rfl) ⟨by omega, by omega⟩ ⟨by omega, by omega⟩ dL_law_2690 (fun r2 M1 h => ?_)
  refine ra_istore (L' := [(5, _), (4, _), (3, _), (2, _), (1, _), (0, _)]) E dL_law_2693 (by decide) rfl ?_
  refine ra_aload_n E dL_law_2695 rfl 3 rfl ?_
  refine ra_aload_n E dL_law_2696 rfl 5 rfl ?_
  refine ra_iload E dL_law_2697 1 rfl ?_
  refine ra_iconst E dL_law_2699 ki_1 ?_
  refine ra_iadd E dL_law_2700 ?_
  refine ra_sld E hX hbl hbA hw1 dL_law_2701 ?_
  refine ra_aload_n E dL_law_2702 rfl 5 rfl ?_
  refine ra_iload E dL_law_2703 1 rfl ?_
  refine ra_iconst E dL_law_2705 ki_2 ?_
  refine ra_iadd E dL_law_2706 ?_
  refine ra_sld E hX hbl hbA hw2 dL_law_2707 ?_
  refine ra_callIV (rest := []) E (c_X13_take _ _ _ _ h) lq_13L cv_X13_take ml_L_333 (by decide) (lmL (k := 699) (by decide)) (fun R => ⟨_, cel_699 tc ad R⟩) rfl rfl rfl (Nat.le_of_ble_eq_true rfl) ⟨by omega, by omega⟩ ⟨by omega, by omega⟩ dL_law_2708 (fun r4 M3 h => ?_)
  refine ra_istore (L' := [(6, _), (5, _), (4, _), (3, _), (2, _), (1, _), (0, _)]) E dL_law_2711 (by decide) rfl ?_
  refine ra_aload_n E dL_law_2713 rfl 4 rfl ?_
  refine ra_callIV (rest := []) E (c_X13_thrown _ _ h) lq_13L cv_X13_thrown ml_L_170 (by decide) (lmL (k := 699) (by decide)) (fun R => ⟨_, cel_699 tc ad R⟩) rfl rfl rfl (Nat.le_of_ble_eq_true rfl) ⟨by omega, by omega⟩ ⟨by omega, by omega⟩ dL_law_2714 (fun r6 M5 h => ?_)
  refine ra_iload E dL_law_2717 1 rfl ?_
  refine ra_icmp_eq (tgt := 2724) E dL_law_2719 (by decide) (fun q7 => ?_) (fun q7 => ?_)
  · replace h := h.1 q7
    refine ra_iload E dL_law_2724 1 rfl ?_
    refine ra_if_ne (tgt := 2741) E dL_law_2726 (by decide) (fun q8 => ?_) (fun q8 => ?_)
    · replace h := h.1 q8
      refine ra_goto (tgt := 3273) E dL_law_2741 (by decide) ?_
      exact ra_sub (L' := [(4, _), (3, _), (2, _), (1, _), (0, _)]) [2, 3, 4, 5, 6] rfl (ra_widen (k := cells + 16) (n := slots + 96) (by omega) (by omega) (hK _ h))
    · replace h := h.2 q8
      refine ra_aload_n E dL_law_2729 rfl 3 rfl ?_
      refine ra_iconst E dL_law_2730 ki_0 ?_
      refine ra_lald E (lmL (by decide)) rfl dL_law_2731 ?_
      refine ra_iload E dL_law_2732 0 rfl ?_
      refine ra_i2l E dL_law_2734 rfl ?_
      refine ra_lcmp E dL_law_2735 ?_
      refine ra_if_eq (tgt := 2741) E dL_law_2736 (by decide) (fun q9 => ?_) (fun q9 => ?_)
      · replace h := h.1 q9
        refine ra_goto (tgt := 3273) E dL_law_2741 (by decide) ?_
        exact ra_sub (L' := [(4, _), (3, _), (2, _), (1, _), (0, _)]) [2, 3, 4, 5, 6] rfl (ra_widen (k := cells + 16) (n := slots + 96) (by omega) (by omega) (hK _ h))
      · replace h := h.2 q9
        refine ra_iconst E dL_law_2739 ki_0 ?_
        exact h.elim
  · replace h := h.2 q7
    refine ra_iconst E dL_law_2722 ki_0 ?_
    exact h.elim
def f_law_50 (xs : Nat → Int32) (i : Int32) (M : TM) (K : TM → Prop) : Prop := f_L_drop (xs (i + (1 : Int32)).toNatClampNeg) M (fun r2 M1 => f_X13_drop (xs (i + (1 : Int32)).toNatClampNeg) M1 (fun r4 M3 => f_X13_thrown M3 (fun r6 M5 => ((r6 = r2 → ((¬ r2 = 0 → K M5) ∧ (r2 = 0 → (((lg_cmp (M5 710 0).toInt64 r4.toInt64) = 0 → K M5) ∧ (¬ (lg_cmp (M5 710 0).toInt64 r4.toInt64) = 0 → False))))) ∧ (¬ r6 = r2 → False)))))
set_option maxRecDepth 100000 in
set_option maxHeartbeats 4000000 in
theorem l_law_50 {p : Program} {l : Launch} {e : Env} {R : Room} {s : State} {m : MethodId} {args : Array Value} {below : List Frame} {meth : Method} {c : Code} {cells slots : Nat} {Q : State → Prop} {D : va_G} {tc : Nat → ClassId} {ad : Nat → Nat} {b Lx : Nat} {xs : Nat → Int32} {i : Int32} {K : TM → Prop} (E : Ev p s m args meth c D tc ad RL cL_law 9) (hfl : l.stackTraces = false) (hX : va_X b Lx xs s s.heap) (hbl : b < s.heap.size) (hbA : ¬ A0 ad s.heap.size b) (hw0 : vp_in i Lx) (hw1 : vp_in (i + (1 : Int32)) Lx) (hw2 : vp_in (i + (2 : Int32)) Lx) (hw3 : vp_in (i + (3 : Int32)) Lx) (hw4 : vp_in (i + (4 : Int32)) Lx) (hw5 : vp_in (i + (5 : Int32)) Lx) (hRm : 40 ≤ R.frames ∧ 1640 ≤ R.locals) (hcl : cells + 16 ≤ R.cells ∧ slots + 96 ≤ R.slots) (hK : ∀ M', K M' → Wa p l e R s m args below meth c (cells + 16) (slots + 96) Q D tc ad 9 M' 3273 [(4, .int i), (3, .ref (ad 710)), (2, .ref (ad 699)), (1, .ref (ad 0)), (0, .ref b)] []) (M : TM) (h : f_law_50 xs i M K) : Wa p l e R s m args below meth c cells slots Q D tc ad 9 M 2744 [(4, .int i), (3, .ref (ad 710)), (2, .ref (ad 699)), (1, .ref (ad 0)), (0, .ref b)] [] := by
  unfold f_law_50 at h
  refine ra_aload_n E dL_law_2744 rfl 3 rfl ?_
  refine ra_aload_n E dL_law_2745 rfl 4 rfl ?_
  refine ra_iload E dL_law_2746 0 rfl ?_
  refine ra_iconst E dL_law_2748 ki_1 ?_
  refine ra_iadd E dL_law_2749 ?_
  refine ra_sld E hX hbl hbA hw1 dL_law_2750 ?_
  refine ra_aload_n E dL_law_2751 rfl 1 rfl ?_
  refine rx_callW (rest := []) E hfl (c_L_drop _ _ _ h) lq_L ctw_L_drop ml_L_334 (by decide) rfl rfl (Nat.le_of_ble_eq_true rfl) ⟨by omega, by omega⟩ ⟨by omega, by omega⟩ dL_law_2752 (fun r2 M1 h => ?_)
  refine ra_istore (L' := [(5, _), (4, _), (3, _), (2, _), (1, _), (0, _)]) E dL_law_2755 (by decide) rfl ?_
  refine ra_aload_n E dL_law_2757 rfl 3 rfl ?_
  refine ra_aload_n E dL_law_2758 rfl 5 rfl ?_
  refine ra_iload E dL_law_2759 1 rfl ?_
  refine ra_iconst E dL_law_2761 ki_1 ?_
  refine ra_iadd E dL_law_2762 ?_
  refine ra_sld E hX hbl hbA hw1 dL_law_2763 ?_
  refine ra_callIV (rest := []) E (c_X13_drop _ _ _ h) lq_13L cv_X13_drop ml_L_336 (by decide) (lmL (k := 699) (by decide)) (fun R => ⟨_, cel_699 tc ad R⟩) rfl rfl rfl (Nat.le_of_ble_eq_true rfl) ⟨by omega, by omega⟩ ⟨by omega, by omega⟩ dL_law_2764 (fun r4 M3 h => ?_)
  refine ra_istore (L' := [(6, _), (5, _), (4, _), (3, _), (2, _), (1, _), (0, _)]) E dL_law_2767 (by decide) rfl ?_
  refine ra_aload_n E dL_law_2769 rfl 4 rfl ?_
  refine ra_callIV (rest := []) E (c_X13_thrown _ _ h) lq_13L cv_X13_thrown ml_L_170 (by decide) (lmL (k := 699) (by decide)) (fun R => ⟨_, cel_699 tc ad R⟩) rfl rfl rfl (Nat.le_of_ble_eq_true rfl) ⟨by omega, by omega⟩ ⟨by omega, by omega⟩ dL_law_2770 (fun r6 M5 h => ?_)
  refine ra_iload E dL_law_2773 1 rfl ?_
  refine ra_icmp_eq (tgt := 2780) E dL_law_2775 (by decide) (fun q7 => ?_) (fun q7 => ?_)
  · replace h := h.1 q7
    refine ra_iload E dL_law_2780 1 rfl ?_
    refine ra_if_ne (tgt := 2797) E dL_law_2782 (by decide) (fun q8 => ?_) (fun q8 => ?_)
    · replace h := h.1 q8
      refine ra_goto (tgt := 3273) E dL_law_2797 (by decide) ?_
      exact ra_sub (L' := [(4, _), (3, _), (2, _), (1, _), (0, _)]) [2, 3, 4, 5, 6] rfl (ra_widen (k := cells + 16) (n := slots + 96) (by omega) (by omega) (hK _ h))
    · replace h := h.2 q8
      refine ra_aload_n E dL_law_2785 rfl 3 rfl ?_
      refine ra_iconst E dL_law_2786 ki_0 ?_
      refine ra_lald E (lmL (by decide)) rfl dL_law_2787 ?_
      refine ra_iload E dL_law_2788 0 rfl ?_
      refine ra_i2l E dL_law_2790 rfl ?_
      refine ra_lcmp E dL_law_2791 ?_
      refine ra_if_eq (tgt := 2797) E dL_law_2792 (by decide) (fun q9 => ?_) (fun q9 => ?_)
      · replace h := h.1 q9
        refine ra_goto (tgt := 3273) E dL_law_2797 (by decide) ?_
        exact ra_sub (L' := [(4, _), (3, _), (2, _), (1, _), (0, _)]) [2, 3, 4, 5, 6] rfl (ra_widen (k := cells + 16) (n := slots + 96) (by omega) (by omega) (hK _ h))
      · replace h := h.2 q9
        refine ra_iconst E dL_law_2795 ki_0 ?_
        exact h.elim
  · replace h := h.2 q7
    refine ra_iconst E dL_law_2778 ki_0 ?_
    exact h.elim
def f_law_51 (xs : Nat → Int32) (i : Int32) (M : TM) (K : TM → Prop) : Prop := f_L_buyFlour (xs (i + (1 : Int32)).toNatClampNeg) (xs (i + (2 : Int32)).toNatClampNeg) M (fun r2 M1 => f_X13_buyFlour (xs (i + (1 : Int32)).toNatClampNeg) (xs (i + (2 : Int32)).toNatClampNeg) M1 (fun r4 M3 => f_X13_thrown M3 (fun r6 M5 => ((r6 = r2 → ((¬ r2 = 0 → K M5) ∧ (r2 = 0 → (((lg_cmp (M5 710 0).toInt64 r4.toInt64) = 0 → K M5) ∧ (¬ (lg_cmp (M5 710 0).toInt64 r4.toInt64) = 0 → False))))) ∧ (¬ r6 = r2 → False)))))
set_option maxRecDepth 100000 in
set_option maxHeartbeats 4000000 in
theorem l_law_51 {p : Program} {l : Launch} {e : Env} {R : Room} {s : State} {m : MethodId} {args : Array Value} {below : List Frame} {meth : Method} {c : Code} {cells slots : Nat} {Q : State → Prop} {D : va_G} {tc : Nat → ClassId} {ad : Nat → Nat} {b Lx : Nat} {xs : Nat → Int32} {i : Int32} {K : TM → Prop} (E : Ev p s m args meth c D tc ad RL cL_law 9) (hfl : l.stackTraces = false) (hX : va_X b Lx xs s s.heap) (hbl : b < s.heap.size) (hbA : ¬ A0 ad s.heap.size b) (hw0 : vp_in i Lx) (hw1 : vp_in (i + (1 : Int32)) Lx) (hw2 : vp_in (i + (2 : Int32)) Lx) (hw3 : vp_in (i + (3 : Int32)) Lx) (hw4 : vp_in (i + (4 : Int32)) Lx) (hw5 : vp_in (i + (5 : Int32)) Lx) (hRm : 40 ≤ R.frames ∧ 1640 ≤ R.locals) (hcl : cells + 16 ≤ R.cells ∧ slots + 96 ≤ R.slots) (hK : ∀ M', K M' → Wa p l e R s m args below meth c (cells + 16) (slots + 96) Q D tc ad 9 M' 3273 [(4, .int i), (3, .ref (ad 710)), (2, .ref (ad 699)), (1, .ref (ad 0)), (0, .ref b)] []) (M : TM) (h : f_law_51 xs i M K) : Wa p l e R s m args below meth c cells slots Q D tc ad 9 M 2800 [(4, .int i), (3, .ref (ad 710)), (2, .ref (ad 699)), (1, .ref (ad 0)), (0, .ref b)] [] := by
  unfold f_law_51 at h
  refine ra_aload_n E dL_law_2800 rfl 3 rfl ?_
  refine ra_aload_n E dL_law_2801 rfl 4 rfl ?_
  refine ra_iload E dL_law_2802 0 rfl ?_
  refine ra_iconst E dL_law_2804 ki_1 ?_
  refine ra_iadd E dL_law_2805 ?_
  refine ra_sld E hX hbl hbA hw1 dL_law_2806 ?_
  refine ra_aload_n E dL_law_2807 rfl 4 rfl ?_
  refine ra_iload E dL_law_2808 0 rfl ?_
  refine ra_iconst E dL_law_2810 ki_2 ?_
  refine ra_iadd E dL_law_2811 ?_
  refine ra_sld E hX hbl hbA hw2 dL_law_2812 ?_
  refine ra_aload_n E dL_law_2813 rfl 1 rfl ?_
  refine rx_callW (rest := []) E hfl (c_L_buyFlour _ _ _ _ h) lq_L ctw_L_buyFlour ml_L_337 (by decide) rfl rfl (Nat.le_of_ble_eq_true rfl) ⟨by omega, by omega⟩ ⟨by omega, by omega⟩ dL_law_2814 (fun r2 M1 h => ?_)
  refine ra_istore (L' := [(5, _), (4, _), (3, _), (2, _), (1, _), (0, _)]) E dL_law_2817 (by decide) rfl ?_
  refine ra_aload_n E dL_law_2819 rfl 3 rfl ?_
  refine ra_aload_n E dL_law_2820 rfl 5 rfl ?_
  refine ra_iload E dL_law_2821 1 rfl ?_
  refine ra_iconst E dL_law_2823 ki_1 ?_
  refine ra_iadd E dL_law_2824 ?_
  refine ra_sld E hX hbl hbA hw1 dL_law_2825 ?_
  refine ra_aload_n E dL_law_2826 rfl 5 rfl ?_
  refine ra_iload E dL_law_2827 1 rfl ?_
  refine ra_iconst E dL_law_2829 ki_2 ?_
  refine ra_iadd E dL_law_2830 ?_
  refine ra_sld E hX hbl hbA hw2 dL_law_2831 ?_
  refine ra_callIV (rest := []) E (c_X13_buyFlour _ _ _ _ h) lq_13L cv_X13_buyFlour ml_L_339 (by decide) (lmL (k := 699) (by decide)) (fun R => ⟨_, cel_699 tc ad R⟩) rfl rfl rfl (Nat.le_of_ble_eq_true rfl) ⟨by omega, by omega⟩ ⟨by omega, by omega⟩ dL_law_2832 (fun r4 M3 h => ?_)
  refine ra_istore (L' := [(6, _), (5, _), (4, _), (3, _), (2, _), (1, _), (0, _)]) E dL_law_2835 (by decide) rfl ?_
  refine ra_aload_n E dL_law_2837 rfl 4 rfl ?_
  refine ra_callIV (rest := []) E (c_X13_thrown _ _ h) lq_13L cv_X13_thrown ml_L_170 (by decide) (lmL (k := 699) (by decide)) (fun R => ⟨_, cel_699 tc ad R⟩) rfl rfl rfl (Nat.le_of_ble_eq_true rfl) ⟨by omega, by omega⟩ ⟨by omega, by omega⟩ dL_law_2838 (fun r6 M5 h => ?_)
  refine ra_iload E dL_law_2841 1 rfl ?_
  refine ra_icmp_eq (tgt := 2848) E dL_law_2843 (by decide) (fun q7 => ?_) (fun q7 => ?_)
  · replace h := h.1 q7
    refine ra_iload E dL_law_2848 1 rfl ?_
    refine ra_if_ne (tgt := 2865) E dL_law_2850 (by decide) (fun q8 => ?_) (fun q8 => ?_)
    · replace h := h.1 q8
      refine ra_goto (tgt := 3273) E dL_law_2865 (by decide) ?_
      exact ra_sub (L' := [(4, _), (3, _), (2, _), (1, _), (0, _)]) [2, 3, 4, 5, 6] rfl (ra_widen (k := cells + 16) (n := slots + 96) (by omega) (by omega) (hK _ h))
    · replace h := h.2 q8
      refine ra_aload_n E dL_law_2853 rfl 3 rfl ?_
      refine ra_iconst E dL_law_2854 ki_0 ?_
      refine ra_lald E (lmL (by decide)) rfl dL_law_2855 ?_
      refine ra_iload E dL_law_2856 0 rfl ?_
      refine ra_i2l E dL_law_2858 rfl ?_
      refine ra_lcmp E dL_law_2859 ?_
      refine ra_if_eq (tgt := 2865) E dL_law_2860 (by decide) (fun q9 => ?_) (fun q9 => ?_)
      · replace h := h.1 q9
        refine ra_goto (tgt := 3273) E dL_law_2865 (by decide) ?_
        exact ra_sub (L' := [(4, _), (3, _), (2, _), (1, _), (0, _)]) [2, 3, 4, 5, 6] rfl (ra_widen (k := cells + 16) (n := slots + 96) (by omega) (by omega) (hK _ h))
      · replace h := h.2 q9
        refine ra_iconst E dL_law_2863 ki_0 ?_
        exact h.elim
  · replace h := h.2 q7
    refine ra_iconst E dL_law_2846 ki_0 ?_
    exact h.elim
def f_law_52 (xs : Nat → Int32) (i : Int32) (M : TM) (K : TM → Prop) : Prop := f_L_collect (xs (i + (1 : Int32)).toNatClampNeg) M (fun r2 M1 => f_X13_collect (xs (i + (1 : Int32)).toNatClampNeg) M1 (fun r4 M3 => f_X13_thrown M3 (fun r6 M5 => ((r6 = r2 → ((¬ r2 = 0 → K M5) ∧ (r2 = 0 → (((lg_cmp (M5 710 0).toInt64 r4.toInt64) = 0 → K M5) ∧ (¬ (lg_cmp (M5 710 0).toInt64 r4.toInt64) = 0 → False))))) ∧ (¬ r6 = r2 → False)))))
set_option maxRecDepth 100000 in
set_option maxHeartbeats 4000000 in
theorem l_law_52 {p : Program} {l : Launch} {e : Env} {R : Room} {s : State} {m : MethodId} {args : Array Value} {below : List Frame} {meth : Method} {c : Code} {cells slots : Nat} {Q : State → Prop} {D : va_G} {tc : Nat → ClassId} {ad : Nat → Nat} {b Lx : Nat} {xs : Nat → Int32} {i : Int32} {K : TM → Prop} (E : Ev p s m args meth c D tc ad RL cL_law 9) (hfl : l.stackTraces = false) (hX : va_X b Lx xs s s.heap) (hbl : b < s.heap.size) (hbA : ¬ A0 ad s.heap.size b) (hw0 : vp_in i Lx) (hw1 : vp_in (i + (1 : Int32)) Lx) (hw2 : vp_in (i + (2 : Int32)) Lx) (hw3 : vp_in (i + (3 : Int32)) Lx) (hw4 : vp_in (i + (4 : Int32)) Lx) (hw5 : vp_in (i + (5 : Int32)) Lx) (hRm : 40 ≤ R.frames ∧ 1640 ≤ R.locals) (hcl : cells + 16 ≤ R.cells ∧ slots + 96 ≤ R.slots) (hK : ∀ M', K M' → Wa p l e R s m args below meth c (cells + 16) (slots + 96) Q D tc ad 9 M' 3273 [(4, .int i), (3, .ref (ad 710)), (2, .ref (ad 699)), (1, .ref (ad 0)), (0, .ref b)] []) (M : TM) (h : f_law_52 xs i M K) : Wa p l e R s m args below meth c cells slots Q D tc ad 9 M 2868 [(4, .int i), (3, .ref (ad 710)), (2, .ref (ad 699)), (1, .ref (ad 0)), (0, .ref b)] [] := by
  unfold f_law_52 at h
  refine ra_aload_n E dL_law_2868 rfl 3 rfl ?_
  refine ra_aload_n E dL_law_2869 rfl 4 rfl ?_
  refine ra_iload E dL_law_2870 0 rfl ?_
  refine ra_iconst E dL_law_2872 ki_1 ?_
  refine ra_iadd E dL_law_2873 ?_
  refine ra_sld E hX hbl hbA hw1 dL_law_2874 ?_
  refine ra_aload_n E dL_law_2875 rfl 1 rfl ?_
  refine rx_callW (rest := []) E hfl (c_L_collect _ _ _ h) lq_L ctw_L_collect ml_L_340 (by decide) rfl rfl (Nat.le_of_ble_eq_true rfl) ⟨by omega, by omega⟩ ⟨by omega, by omega⟩ dL_law_2876 (fun r2 M1 h => ?_)
  refine ra_istore (L' := [(5, _), (4, _), (3, _), (2, _), (1, _), (0, _)]) E dL_law_2879 (by decide) rfl ?_
  refine ra_aload_n E dL_law_2881 rfl 3 rfl ?_
  refine ra_aload_n E dL_law_2882 rfl 5 rfl ?_
  refine ra_iload E dL_law_2883 1 rfl ?_
  refine ra_iconst E dL_law_2885 ki_1 ?_
  refine ra_iadd E dL_law_2886 ?_
  refine ra_sld E hX hbl hbA hw1 dL_law_2887 ?_
  refine ra_callIV (rest := []) E (c_X13_collect _ _ _ h) lq_13L cv_X13_collect ml_L_342 (by decide) (lmL (k := 699) (by decide)) (fun R => ⟨_, cel_699 tc ad R⟩) rfl rfl rfl (Nat.le_of_ble_eq_true rfl) ⟨by omega, by omega⟩ ⟨by omega, by omega⟩ dL_law_2888 (fun r4 M3 h => ?_)
  refine ra_istore (L' := [(6, _), (5, _), (4, _), (3, _), (2, _), (1, _), (0, _)]) E dL_law_2891 (by decide) rfl ?_
  refine ra_aload_n E dL_law_2893 rfl 4 rfl ?_
  refine ra_callIV (rest := []) E (c_X13_thrown _ _ h) lq_13L cv_X13_thrown ml_L_170 (by decide) (lmL (k := 699) (by decide)) (fun R => ⟨_, cel_699 tc ad R⟩) rfl rfl rfl (Nat.le_of_ble_eq_true rfl) ⟨by omega, by omega⟩ ⟨by omega, by omega⟩ dL_law_2894 (fun r6 M5 h => ?_)
  refine ra_iload E dL_law_2897 1 rfl ?_
  refine ra_icmp_eq (tgt := 2904) E dL_law_2899 (by decide) (fun q7 => ?_) (fun q7 => ?_)
  · replace h := h.1 q7
    refine ra_iload E dL_law_2904 1 rfl ?_
    refine ra_if_ne (tgt := 2921) E dL_law_2906 (by decide) (fun q8 => ?_) (fun q8 => ?_)
    · replace h := h.1 q8
      refine ra_goto (tgt := 3273) E dL_law_2921 (by decide) ?_
      exact ra_sub (L' := [(4, _), (3, _), (2, _), (1, _), (0, _)]) [2, 3, 4, 5, 6] rfl (ra_widen (k := cells + 16) (n := slots + 96) (by omega) (by omega) (hK _ h))
    · replace h := h.2 q8
      refine ra_aload_n E dL_law_2909 rfl 3 rfl ?_
      refine ra_iconst E dL_law_2910 ki_0 ?_
      refine ra_lald E (lmL (by decide)) rfl dL_law_2911 ?_
      refine ra_iload E dL_law_2912 0 rfl ?_
      refine ra_i2l E dL_law_2914 rfl ?_
      refine ra_lcmp E dL_law_2915 ?_
      refine ra_if_eq (tgt := 2921) E dL_law_2916 (by decide) (fun q9 => ?_) (fun q9 => ?_)
      · replace h := h.1 q9
        refine ra_goto (tgt := 3273) E dL_law_2921 (by decide) ?_
        exact ra_sub (L' := [(4, _), (3, _), (2, _), (1, _), (0, _)]) [2, 3, 4, 5, 6] rfl (ra_widen (k := cells + 16) (n := slots + 96) (by omega) (by omega) (hK _ h))
      · replace h := h.2 q9
        refine ra_iconst E dL_law_2919 ki_0 ?_
        exact h.elim
  · replace h := h.2 q7
    refine ra_iconst E dL_law_2902 ki_0 ?_
    exact h.elim
def f_law_53 (xs : Nat → Int32) (i : Int32) (M : TM) (K : TM → Prop) : Prop := f_L_wash (xs (i + (1 : Int32)).toNatClampNeg) M (fun r2 M1 => f_X13_wash (xs (i + (1 : Int32)).toNatClampNeg) M1 (fun r4 M3 => f_X13_thrown M3 (fun r6 M5 => ((r6 = r2 → ((¬ r2 = 0 → K M5) ∧ (r2 = 0 → (((lg_cmp (M5 710 0).toInt64 r4.toInt64) = 0 → K M5) ∧ (¬ (lg_cmp (M5 710 0).toInt64 r4.toInt64) = 0 → False))))) ∧ (¬ r6 = r2 → False)))))
set_option maxRecDepth 100000 in
set_option maxHeartbeats 4000000 in
theorem l_law_53 {p : Program} {l : Launch} {e : Env} {R : Room} {s : State} {m : MethodId} {args : Array Value} {below : List Frame} {meth : Method} {c : Code} {cells slots : Nat} {Q : State → Prop} {D : va_G} {tc : Nat → ClassId} {ad : Nat → Nat} {b Lx : Nat} {xs : Nat → Int32} {i : Int32} {K : TM → Prop} (E : Ev p s m args meth c D tc ad RL cL_law 9) (hfl : l.stackTraces = false) (hX : va_X b Lx xs s s.heap) (hbl : b < s.heap.size) (hbA : ¬ A0 ad s.heap.size b) (hw0 : vp_in i Lx) (hw1 : vp_in (i + (1 : Int32)) Lx) (hw2 : vp_in (i + (2 : Int32)) Lx) (hw3 : vp_in (i + (3 : Int32)) Lx) (hw4 : vp_in (i + (4 : Int32)) Lx) (hw5 : vp_in (i + (5 : Int32)) Lx) (hRm : 40 ≤ R.frames ∧ 1640 ≤ R.locals) (hcl : cells + 16 ≤ R.cells ∧ slots + 96 ≤ R.slots) (hK : ∀ M', K M' → Wa p l e R s m args below meth c (cells + 16) (slots + 96) Q D tc ad 9 M' 3273 [(4, .int i), (3, .ref (ad 710)), (2, .ref (ad 699)), (1, .ref (ad 0)), (0, .ref b)] []) (M : TM) (h : f_law_53 xs i M K) : Wa p l e R s m args below meth c cells slots Q D tc ad 9 M 2924 [(4, .int i), (3, .ref (ad 710)), (2, .ref (ad 699)), (1, .ref (ad 0)), (0, .ref b)] [] := by
  unfold f_law_53 at h
  refine ra_aload_n E dL_law_2924 rfl 3 rfl ?_
  refine ra_aload_n E dL_law_2925 rfl 4 rfl ?_
  refine ra_iload E dL_law_2926 0 rfl ?_
  refine ra_iconst E dL_law_2928 ki_1 ?_
  refine ra_iadd E dL_law_2929 ?_
  refine ra_sld E hX hbl hbA hw1 dL_law_2930 ?_
  refine ra_aload_n E dL_law_2931 rfl 1 rfl ?_
  refine rx_callW (rest := []) E hfl (c_L_wash _ _ _ h) lq_L ctw_L_wash ml_L_343 (by decide) rfl rfl (Nat.le_of_ble_eq_true rfl) ⟨by omega, by omega⟩ ⟨by omega, by omega⟩ dL_law_2932 (fun r2 M1 h => ?_)
  refine ra_istore (L' := [(5, _), (4, _), (3, _), (2, _), (1, _), (0, _)]) E dL_law_2935 (by decide) rfl ?_
  refine ra_aload_n E dL_law_2937 rfl 3 rfl ?_
  refine ra_aload_n E dL_law_2938 rfl 5 rfl ?_
  refine ra_iload E dL_law_2939 1 rfl ?_
  refine ra_iconst E dL_law_2941 ki_1 ?_
  refine ra_iadd E dL_law_2942 ?_
  refine ra_sld E hX hbl hbA hw1 dL_law_2943 ?_
  refine ra_callIV (rest := []) E (c_X13_wash _ _ _ h) lq_13L cv_X13_wash ml_L_345 (by decide) (lmL (k := 699) (by decide)) (fun R => ⟨_, cel_699 tc ad R⟩) rfl rfl rfl (Nat.le_of_ble_eq_true rfl) ⟨by omega, by omega⟩ ⟨by omega, by omega⟩ dL_law_2944 (fun r4 M3 h => ?_)
  refine ra_istore (L' := [(6, _), (5, _), (4, _), (3, _), (2, _), (1, _), (0, _)]) E dL_law_2947 (by decide) rfl ?_
  refine ra_aload_n E dL_law_2949 rfl 4 rfl ?_
  refine ra_callIV (rest := []) E (c_X13_thrown _ _ h) lq_13L cv_X13_thrown ml_L_170 (by decide) (lmL (k := 699) (by decide)) (fun R => ⟨_, cel_699 tc ad R⟩) rfl rfl rfl (Nat.le_of_ble_eq_true rfl) ⟨by omega, by omega⟩ ⟨by omega, by omega⟩ dL_law_2950 (fun r6 M5 h => ?_)
  refine ra_iload E dL_law_2953 1 rfl ?_
  refine ra_icmp_eq (tgt := 2960) E dL_law_2955 (by decide) (fun q7 => ?_) (fun q7 => ?_)
  · replace h := h.1 q7
    refine ra_iload E dL_law_2960 1 rfl ?_
    refine ra_if_ne (tgt := 2977) E dL_law_2962 (by decide) (fun q8 => ?_) (fun q8 => ?_)
    · replace h := h.1 q8
      refine ra_goto (tgt := 3273) E dL_law_2977 (by decide) ?_
      exact ra_sub (L' := [(4, _), (3, _), (2, _), (1, _), (0, _)]) [2, 3, 4, 5, 6] rfl (ra_widen (k := cells + 16) (n := slots + 96) (by omega) (by omega) (hK _ h))
    · replace h := h.2 q8
      refine ra_aload_n E dL_law_2965 rfl 3 rfl ?_
      refine ra_iconst E dL_law_2966 ki_0 ?_
      refine ra_lald E (lmL (by decide)) rfl dL_law_2967 ?_
      refine ra_iload E dL_law_2968 0 rfl ?_
      refine ra_i2l E dL_law_2970 rfl ?_
      refine ra_lcmp E dL_law_2971 ?_
      refine ra_if_eq (tgt := 2977) E dL_law_2972 (by decide) (fun q9 => ?_) (fun q9 => ?_)
      · replace h := h.1 q9
        refine ra_goto (tgt := 3273) E dL_law_2977 (by decide) ?_
        exact ra_sub (L' := [(4, _), (3, _), (2, _), (1, _), (0, _)]) [2, 3, 4, 5, 6] rfl (ra_widen (k := cells + 16) (n := slots + 96) (by omega) (by omega) (hK _ h))
      · replace h := h.2 q9
        refine ra_iconst E dL_law_2975 ki_0 ?_
        exact h.elim
  · replace h := h.2 q7
    refine ra_iconst E dL_law_2958 ki_0 ?_
    exact h.elim
def f_law_54 (xs : Nat → Int32) (i : Int32) (M : TM) (K : TM → Prop) : Prop := f_L_passMinutes (xs (i + (1 : Int32)).toNatClampNeg) M (fun r2 M1 => f_X13_passMinutes (xs (i + (1 : Int32)).toNatClampNeg) M1 (fun r4 M3 => f_X13_thrown M3 (fun r6 M5 => ((r6 = r2 → ((¬ r2 = 0 → K M5) ∧ (r2 = 0 → (((lg_cmp (M5 710 0).toInt64 r4.toInt64) = 0 → K M5) ∧ (¬ (lg_cmp (M5 710 0).toInt64 r4.toInt64) = 0 → False))))) ∧ (¬ r6 = r2 → False)))))
set_option maxRecDepth 100000 in
set_option maxHeartbeats 4000000 in
theorem l_law_54 {p : Program} {l : Launch} {e : Env} {R : Room} {s : State} {m : MethodId} {args : Array Value} {below : List Frame} {meth : Method} {c : Code} {cells slots : Nat} {Q : State → Prop} {D : va_G} {tc : Nat → ClassId} {ad : Nat → Nat} {b Lx : Nat} {xs : Nat → Int32} {i : Int32} {K : TM → Prop} (E : Ev p s m args meth c D tc ad RL cL_law 9) (hfl : l.stackTraces = false) (hX : va_X b Lx xs s s.heap) (hbl : b < s.heap.size) (hbA : ¬ A0 ad s.heap.size b) (hw0 : vp_in i Lx) (hw1 : vp_in (i + (1 : Int32)) Lx) (hw2 : vp_in (i + (2 : Int32)) Lx) (hw3 : vp_in (i + (3 : Int32)) Lx) (hw4 : vp_in (i + (4 : Int32)) Lx) (hw5 : vp_in (i + (5 : Int32)) Lx) (hRm : 40 ≤ R.frames ∧ 1640 ≤ R.locals) (hcl : cells + 16 ≤ R.cells ∧ slots + 96 ≤ R.slots) (hK : ∀ M', K M' → Wa p l e R s m args below meth c (cells + 16) (slots + 96) Q D tc ad 9 M' 3273 [(4, .int i), (3, .ref (ad 710)), (2, .ref (ad 699)), (1, .ref (ad 0)), (0, .ref b)] []) (M : TM) (h : f_law_54 xs i M K) : Wa p l e R s m args below meth c cells slots Q D tc ad 9 M 2980 [(4, .int i), (3, .ref (ad 710)), (2, .ref (ad 699)), (1, .ref (ad 0)), (0, .ref b)] [] := by
  unfold f_law_54 at h
  refine ra_aload_n E dL_law_2980 rfl 3 rfl ?_
  refine ra_aload_n E dL_law_2981 rfl 4 rfl ?_
  refine ra_iload E dL_law_2982 0 rfl ?_
  refine ra_iconst E dL_law_2984 ki_1 ?_
  refine ra_iadd E dL_law_2985 ?_
  refine ra_sld E hX hbl hbA hw1 dL_law_2986 ?_
  refine ra_aload_n E dL_law_2987 rfl 1 rfl ?_
  refine rx_callW (rest := []) E hfl (c_L_passMinutes _ _ _ h) lq_L ctw_L_passMinutes ml_L_346 (by decide) rfl rfl (Nat.le_of_ble_eq_true rfl) ⟨by omega, by omega⟩ ⟨by omega, by omega⟩ dL_law_2988 (fun r2 M1 h => ?_)
  refine ra_istore (L' := [(5, _), (4, _), (3, _), (2, _), (1, _), (0, _)]) E dL_law_2991 (by decide) rfl ?_
  refine ra_aload_n E dL_law_2993 rfl 3 rfl ?_
  refine ra_aload_n E dL_law_2994 rfl 5 rfl ?_
  refine ra_iload E dL_law_2995 1 rfl ?_
  refine ra_iconst E dL_law_2997 ki_1 ?_
  refine ra_iadd E dL_law_2998 ?_
  refine ra_sld E hX hbl hbA hw1 dL_law_2999 ?_
  refine ra_callIV (rest := []) E (c_X13_passMinutes _ _ _ h) lq_13L cv_X13_passMinutes ml_L_348 (by decide) (lmL (k := 699) (by decide)) (fun R => ⟨_, cel_699 tc ad R⟩) rfl rfl rfl (Nat.le_of_ble_eq_true rfl) ⟨by omega, by omega⟩ ⟨by omega, by omega⟩ dL_law_3000 (fun r4 M3 h => ?_)
  refine ra_istore (L' := [(6, _), (5, _), (4, _), (3, _), (2, _), (1, _), (0, _)]) E dL_law_3003 (by decide) rfl ?_
  refine ra_aload_n E dL_law_3005 rfl 4 rfl ?_
  refine ra_callIV (rest := []) E (c_X13_thrown _ _ h) lq_13L cv_X13_thrown ml_L_170 (by decide) (lmL (k := 699) (by decide)) (fun R => ⟨_, cel_699 tc ad R⟩) rfl rfl rfl (Nat.le_of_ble_eq_true rfl) ⟨by omega, by omega⟩ ⟨by omega, by omega⟩ dL_law_3006 (fun r6 M5 h => ?_)
  refine ra_iload E dL_law_3009 1 rfl ?_
  refine ra_icmp_eq (tgt := 3016) E dL_law_3011 (by decide) (fun q7 => ?_) (fun q7 => ?_)
  · replace h := h.1 q7
    refine ra_iload E dL_law_3016 1 rfl ?_
    refine ra_if_ne (tgt := 3033) E dL_law_3018 (by decide) (fun q8 => ?_) (fun q8 => ?_)
    · replace h := h.1 q8
      refine ra_goto (tgt := 3273) E dL_law_3033 (by decide) ?_
      exact ra_sub (L' := [(4, _), (3, _), (2, _), (1, _), (0, _)]) [2, 3, 4, 5, 6] rfl (ra_widen (k := cells + 16) (n := slots + 96) (by omega) (by omega) (hK _ h))
    · replace h := h.2 q8
      refine ra_aload_n E dL_law_3021 rfl 3 rfl ?_
      refine ra_iconst E dL_law_3022 ki_0 ?_
      refine ra_lald E (lmL (by decide)) rfl dL_law_3023 ?_
      refine ra_iload E dL_law_3024 0 rfl ?_
      refine ra_i2l E dL_law_3026 rfl ?_
      refine ra_lcmp E dL_law_3027 ?_
      refine ra_if_eq (tgt := 3033) E dL_law_3028 (by decide) (fun q9 => ?_) (fun q9 => ?_)
      · replace h := h.1 q9
        refine ra_goto (tgt := 3273) E dL_law_3033 (by decide) ?_
        exact ra_sub (L' := [(4, _), (3, _), (2, _), (1, _), (0, _)]) [2, 3, 4, 5, 6] rfl (ra_widen (k := cells + 16) (n := slots + 96) (by omega) (by omega) (hK _ h))
      · replace h := h.2 q9
        refine ra_iconst E dL_law_3031 ki_0 ?_
        exact h.elim
  · replace h := h.2 q7
    refine ra_iconst E dL_law_3014 ki_0 ?_
    exact h.elim
def f_law_55 (xs : Nat → Int32) (i : Int32) (M : TM) (K : TM → Prop) : Prop := f_L_runScript (xs (i + (1 : Int32)).toNatClampNeg) M (fun r2 M1 => f_X13_runScript (xs (i + (1 : Int32)).toNatClampNeg) M1 (fun r4 M3 => f_X13_thrown M3 (fun r6 M5 => ((r6 = r2 → ((¬ r2 = 0 → K M5) ∧ (r2 = 0 → (((lg_cmp (M5 710 0).toInt64 r4.toInt64) = 0 → K M5) ∧ (¬ (lg_cmp (M5 710 0).toInt64 r4.toInt64) = 0 → False))))) ∧ (¬ r6 = r2 → False)))))
set_option maxRecDepth 100000 in
set_option maxHeartbeats 4000000 in
theorem l_law_55 {p : Program} {l : Launch} {e : Env} {R : Room} {s : State} {m : MethodId} {args : Array Value} {below : List Frame} {meth : Method} {c : Code} {cells slots : Nat} {Q : State → Prop} {D : va_G} {tc : Nat → ClassId} {ad : Nat → Nat} {b Lx : Nat} {xs : Nat → Int32} {i : Int32} {K : TM → Prop} (E : Ev p s m args meth c D tc ad RL cL_law 9) (hfl : l.stackTraces = false) (hX : va_X b Lx xs s s.heap) (hbl : b < s.heap.size) (hbA : ¬ A0 ad s.heap.size b) (hw0 : vp_in i Lx) (hw1 : vp_in (i + (1 : Int32)) Lx) (hw2 : vp_in (i + (2 : Int32)) Lx) (hw3 : vp_in (i + (3 : Int32)) Lx) (hw4 : vp_in (i + (4 : Int32)) Lx) (hw5 : vp_in (i + (5 : Int32)) Lx) (hRm : 40 ≤ R.frames ∧ 1640 ≤ R.locals) (hcl : cells + 16 ≤ R.cells ∧ slots + 96 ≤ R.slots) (hK : ∀ M', K M' → Wa p l e R s m args below meth c (cells + 16) (slots + 96) Q D tc ad 9 M' 3273 [(4, .int i), (3, .ref (ad 710)), (2, .ref (ad 699)), (1, .ref (ad 0)), (0, .ref b)] []) (M : TM) (h : f_law_55 xs i M K) : Wa p l e R s m args below meth c cells slots Q D tc ad 9 M 3036 [(4, .int i), (3, .ref (ad 710)), (2, .ref (ad 699)), (1, .ref (ad 0)), (0, .ref b)] [] := by
  unfold f_law_55 at h
  refine ra_aload_n E dL_law_3036 rfl 3 rfl ?_
  refine ra_aload_n E dL_law_3037 rfl 4 rfl ?_
  refine ra_iload E dL_law_3038 0 rfl ?_
  refine ra_iconst E dL_law_3040 ki_1 ?_
  refine ra_iadd E dL_law_3041 ?_
  refine ra_sld E hX hbl hbA hw1 dL_law_3042 ?_
  refine ra_aload_n E dL_law_3043 rfl 1 rfl ?_
  refine rx_callW (rest := []) E hfl (c_L_runScript _ _ _ h) lq_L ctw_L_runScript ml_L_349 (by decide) rfl rfl (Nat.le_of_ble_eq_true rfl) ⟨by omega, by omega⟩ ⟨by omega, by omega⟩ dL_law_3044 (fun r2 M1 h => ?_)
  refine ra_istore (L' := [(5, _), (4, _), (3, _), (2, _), (1, _), (0, _)]) E dL_law_3047 (by decide) rfl ?_
  refine ra_aload_n E dL_law_3049 rfl 3 rfl ?_
  refine ra_aload_n E dL_law_3050 rfl 5 rfl ?_
  refine ra_iload E dL_law_3051 1 rfl ?_
  refine ra_iconst E dL_law_3053 ki_1 ?_
  refine ra_iadd E dL_law_3054 ?_
  refine ra_sld E hX hbl hbA hw1 dL_law_3055 ?_
  refine ra_callIV (rest := []) E (c_X13_runScript _ _ _ h) lq_13L cv_X13_runScript ml_L_351 (by decide) (lmL (k := 699) (by decide)) (fun R => ⟨_, cel_699 tc ad R⟩) rfl rfl rfl (Nat.le_of_ble_eq_true rfl) ⟨by omega, by omega⟩ ⟨by omega, by omega⟩ dL_law_3056 (fun r4 M3 h => ?_)
  refine ra_istore (L' := [(6, _), (5, _), (4, _), (3, _), (2, _), (1, _), (0, _)]) E dL_law_3059 (by decide) rfl ?_
  refine ra_aload_n E dL_law_3061 rfl 4 rfl ?_
  refine ra_callIV (rest := []) E (c_X13_thrown _ _ h) lq_13L cv_X13_thrown ml_L_170 (by decide) (lmL (k := 699) (by decide)) (fun R => ⟨_, cel_699 tc ad R⟩) rfl rfl rfl (Nat.le_of_ble_eq_true rfl) ⟨by omega, by omega⟩ ⟨by omega, by omega⟩ dL_law_3062 (fun r6 M5 h => ?_)
  refine ra_iload E dL_law_3065 1 rfl ?_
  refine ra_icmp_eq (tgt := 3072) E dL_law_3067 (by decide) (fun q7 => ?_) (fun q7 => ?_)
  · replace h := h.1 q7
    refine ra_iload E dL_law_3072 1 rfl ?_
    refine ra_if_ne (tgt := 3089) E dL_law_3074 (by decide) (fun q8 => ?_) (fun q8 => ?_)
    · replace h := h.1 q8
      refine ra_goto (tgt := 3273) E dL_law_3089 (by decide) ?_
      exact ra_sub (L' := [(4, _), (3, _), (2, _), (1, _), (0, _)]) [2, 3, 4, 5, 6] rfl (ra_widen (k := cells + 16) (n := slots + 96) (by omega) (by omega) (hK _ h))
    · replace h := h.2 q8
      refine ra_aload_n E dL_law_3077 rfl 3 rfl ?_
      refine ra_iconst E dL_law_3078 ki_0 ?_
      refine ra_lald E (lmL (by decide)) rfl dL_law_3079 ?_
      refine ra_iload E dL_law_3080 0 rfl ?_
      refine ra_i2l E dL_law_3082 rfl ?_
      refine ra_lcmp E dL_law_3083 ?_
      refine ra_if_eq (tgt := 3089) E dL_law_3084 (by decide) (fun q9 => ?_) (fun q9 => ?_)
      · replace h := h.1 q9
        refine ra_goto (tgt := 3273) E dL_law_3089 (by decide) ?_
        exact ra_sub (L' := [(4, _), (3, _), (2, _), (1, _), (0, _)]) [2, 3, 4, 5, 6] rfl (ra_widen (k := cells + 16) (n := slots + 96) (by omega) (by omega) (hK _ h))
      · replace h := h.2 q9
        refine ra_iconst E dL_law_3087 ki_0 ?_
        exact h.elim
  · replace h := h.2 q7
    refine ra_iconst E dL_law_3070 ki_0 ?_
    exact h.elim
def f_law_56 (xs : Nat → Int32) (i : Int32) (M : TM) (K : TM → Prop) : Prop := f_X12_writeCanal M (fun r2 M1 => f_X13_writeCanal M1 (fun r4 M3 => ((r2 = r4 → K M3) ∧ (¬ r2 = r4 → False))))
set_option maxRecDepth 100000 in
set_option maxHeartbeats 4000000 in
theorem l_law_56 {p : Program} {l : Launch} {e : Env} {R : Room} {s : State} {m : MethodId} {args : Array Value} {below : List Frame} {meth : Method} {c : Code} {cells slots : Nat} {Q : State → Prop} {D : va_G} {tc : Nat → ClassId} {ad : Nat → Nat} {b Lx : Nat} {xs : Nat → Int32} {i : Int32} {K : TM → Prop} (E : Ev p s m args meth c D tc ad RL cL_law 9) (hfl : l.stackTraces = false) (hX : va_X b Lx xs s s.heap) (hbl : b < s.heap.size) (hbA : ¬ A0 ad s.heap.size b) (hw0 : vp_in i Lx) (hw1 : vp_in (i + (1 : Int32)) Lx) (hw2 : vp_in (i + (2 : Int32)) Lx) (hw3 : vp_in (i + (3 : Int32)) Lx) (hw4 : vp_in (i + (4 : Int32)) Lx) (hw5 : vp_in (i + (5 : Int32)) Lx) (hRm : 40 ≤ R.frames ∧ 1640 ≤ R.locals) (hcl : cells + 16 ≤ R.cells ∧ slots + 96 ≤ R.slots) (hK : ∀ M', K M' → Wa p l e R s m args below meth c (cells + 16) (slots + 96) Q D tc ad 9 M' 3273 [(4, .int i), (3, .ref (ad 710)), (2, .ref (ad 699)), (1, .ref (ad 0)), (0, .ref b)] []) (M : TM) (h : f_law_56 xs i M K) : Wa p l e R s m args below meth c cells slots Q D tc ad 9 M 3092 [(4, .int i), (3, .ref (ad 710)), (2, .ref (ad 699)), (1, .ref (ad 0)), (0, .ref b)] [] := by
  unfold f_law_56 at h
  refine ra_aload_n E dL_law_3092 rfl 3 rfl ?_
  refine ra_callIV (rest := []) E (c_X12_writeCanal _ _ h) (lq_X12 _) cv_X12_writeCanal ml_L_352 (by decide) (lm (by decide)) (fun R => ⟨_, cel_0 tc ad R⟩) rfl rfl rfl (Nat.le_of_ble_eq_true rfl) ⟨by omega, by omega⟩ ⟨by omega, by omega⟩ dL_law_3093 (fun r2 M1 h => ?_)
  refine ra_aload_n E dL_law_3096 rfl 2 rfl ?_
  refine ra_callIV (rest := [_]) E (c_X13_writeCanal _ _ h) lq_13L cv_X13_writeCanal ml_L_355 (by decide) (lmL (k := 699) (by decide)) (fun R => ⟨_, cel_699 tc ad R⟩) rfl rfl rfl (Nat.le_of_ble_eq_true rfl) ⟨by omega, by omega⟩ ⟨by omega, by omega⟩ dL_law_3097 (fun r4 M3 h => ?_)
  refine ra_icmp_eq (tgt := 3273) E dL_law_3100 (by decide) (fun q5 => ?_) (fun q5 => ?_)
  · replace h := h.1 q5
    exact ra_sub (L' := [(4, _), (3, _), (2, _), (1, _), (0, _)]) [0, 1, 2, 3, 4] rfl (ra_widen (k := cells + 16) (n := slots + 96) (by omega) (by omega) (hK _ h))
  · replace h := h.2 q5
    refine ra_iconst E dL_law_3103 ki_0 ?_
    exact h.elim
def f_law_57 (xs : Nat → Int32) (i : Int32) (M : TM) (K : TM → Prop) : Prop := f_L_outputByte (xs (i + (1 : Int32)).toNatClampNeg) M (fun r2 M1 => f_X13_outputByte (xs (i + (1 : Int32)).toNatClampNeg) M1 (fun r4 M3 => f_X13_thrown M3 (fun r6 M5 => ((r6 = r2 → ((¬ r2 = 0 → K M5) ∧ (r2 = 0 → (((lg_cmp (M5 710 0).toInt64 r4.toInt64) = 0 → K M5) ∧ (¬ (lg_cmp (M5 710 0).toInt64 r4.toInt64) = 0 → False))))) ∧ (¬ r6 = r2 → False)))))
set_option maxRecDepth 100000 in
set_option maxHeartbeats 4000000 in
theorem l_law_57 {p : Program} {l : Launch} {e : Env} {R : Room} {s : State} {m : MethodId} {args : Array Value} {below : List Frame} {meth : Method} {c : Code} {cells slots : Nat} {Q : State → Prop} {D : va_G} {tc : Nat → ClassId} {ad : Nat → Nat} {b Lx : Nat} {xs : Nat → Int32} {i : Int32} {K : TM → Prop} (E : Ev p s m args meth c D tc ad RL cL_law 9) (hfl : l.stackTraces = false) (hX : va_X b Lx xs s s.heap) (hbl : b < s.heap.size) (hbA : ¬ A0 ad s.heap.size b) (hw0 : vp_in i Lx) (hw1 : vp_in (i + (1 : Int32)) Lx) (hw2 : vp_in (i + (2 : Int32)) Lx) (hw3 : vp_in (i + (3 : Int32)) Lx) (hw4 : vp_in (i + (4 : Int32)) Lx) (hw5 : vp_in (i + (5 : Int32)) Lx) (hRm : 40 ≤ R.frames ∧ 1640 ≤ R.locals) (hcl : cells + 16 ≤ R.cells ∧ slots + 96 ≤ R.slots) (hK : ∀ M', K M' → Wa p l e R s m args below meth c (cells + 16) (slots + 96) Q D tc ad 9 M' 3273 [(4, .int i), (3, .ref (ad 710)), (2, .ref (ad 699)), (1, .ref (ad 0)), (0, .ref b)] []) (M : TM) (h : f_law_57 xs i M K) : Wa p l e R s m args below meth c cells slots Q D tc ad 9 M 3105 [(4, .int i), (3, .ref (ad 710)), (2, .ref (ad 699)), (1, .ref (ad 0)), (0, .ref b)] [] := by
  unfold f_law_57 at h
  refine ra_aload_n E dL_law_3105 rfl 3 rfl ?_
  refine ra_aload_n E dL_law_3106 rfl 4 rfl ?_
  refine ra_iload E dL_law_3107 0 rfl ?_
  refine ra_iconst E dL_law_3109 ki_1 ?_
  refine ra_iadd E dL_law_3110 ?_
  refine ra_sld E hX hbl hbA hw1 dL_law_3111 ?_
  refine ra_aload_n E dL_law_3112 rfl 1 rfl ?_
  refine rx_callW (rest := []) E hfl (c_L_outputByte _ _ _ h) lq_L ctw_L_outputByte ml_L_356 (by decide) rfl rfl (Nat.le_of_ble_eq_true rfl) ⟨by omega, by omega⟩ ⟨by omega, by omega⟩ dL_law_3113 (fun r2 M1 h => ?_)
  refine ra_istore (L' := [(5, _), (4, _), (3, _), (2, _), (1, _), (0, _)]) E dL_law_3116 (by decide) rfl ?_
  refine ra_aload_n E dL_law_3118 rfl 3 rfl ?_
  refine ra_aload_n E dL_law_3119 rfl 5 rfl ?_
  refine ra_iload E dL_law_3120 1 rfl ?_
  refine ra_iconst E dL_law_3122 ki_1 ?_
  refine ra_iadd E dL_law_3123 ?_
  refine ra_sld E hX hbl hbA hw1 dL_law_3124 ?_
  refine ra_callIV (rest := []) E (c_X13_outputByte _ _ _ h) lq_13L cv_X13_outputByte ml_L_358 (by decide) (lmL (k := 699) (by decide)) (fun R => ⟨_, cel_699 tc ad R⟩) rfl rfl rfl (Nat.le_of_ble_eq_true rfl) ⟨by omega, by omega⟩ ⟨by omega, by omega⟩ dL_law_3125 (fun r4 M3 h => ?_)
  refine ra_istore (L' := [(6, _), (5, _), (4, _), (3, _), (2, _), (1, _), (0, _)]) E dL_law_3128 (by decide) rfl ?_
  refine ra_aload_n E dL_law_3130 rfl 4 rfl ?_
  refine ra_callIV (rest := []) E (c_X13_thrown _ _ h) lq_13L cv_X13_thrown ml_L_170 (by decide) (lmL (k := 699) (by decide)) (fun R => ⟨_, cel_699 tc ad R⟩) rfl rfl rfl (Nat.le_of_ble_eq_true rfl) ⟨by omega, by omega⟩ ⟨by omega, by omega⟩ dL_law_3131 (fun r6 M5 h => ?_)
  refine ra_iload E dL_law_3134 1 rfl ?_
  refine ra_icmp_eq (tgt := 3141) E dL_law_3136 (by decide) (fun q7 => ?_) (fun q7 => ?_)
  · replace h := h.1 q7
    refine ra_iload E dL_law_3141 1 rfl ?_
    refine ra_if_ne (tgt := 3158) E dL_law_3143 (by decide) (fun q8 => ?_) (fun q8 => ?_)
    · replace h := h.1 q8
      refine ra_goto (tgt := 3273) E dL_law_3158 (by decide) ?_
      exact ra_sub (L' := [(4, _), (3, _), (2, _), (1, _), (0, _)]) [2, 3, 4, 5, 6] rfl (ra_widen (k := cells + 16) (n := slots + 96) (by omega) (by omega) (hK _ h))
    · replace h := h.2 q8
      refine ra_aload_n E dL_law_3146 rfl 3 rfl ?_
      refine ra_iconst E dL_law_3147 ki_0 ?_
      refine ra_lald E (lmL (by decide)) rfl dL_law_3148 ?_
      refine ra_iload E dL_law_3149 0 rfl ?_
      refine ra_i2l E dL_law_3151 rfl ?_
      refine ra_lcmp E dL_law_3152 ?_
      refine ra_if_eq (tgt := 3158) E dL_law_3153 (by decide) (fun q9 => ?_) (fun q9 => ?_)
      · replace h := h.1 q9
        refine ra_goto (tgt := 3273) E dL_law_3158 (by decide) ?_
        exact ra_sub (L' := [(4, _), (3, _), (2, _), (1, _), (0, _)]) [2, 3, 4, 5, 6] rfl (ra_widen (k := cells + 16) (n := slots + 96) (by omega) (by omega) (hK _ h))
      · replace h := h.2 q9
        refine ra_iconst E dL_law_3156 ki_0 ?_
        exact h.elim
  · replace h := h.2 q7
    refine ra_iconst E dL_law_3139 ki_0 ?_
    exact h.elim
def f_law_58 (xs : Nat → Int32) (i : Int32) (M : TM) (K : TM → Prop) : Prop := f_X12_undoableCount M (fun r2 M1 => f_X13_undoableCount M1 (fun r4 M3 => ((r2 = r4 → K M3) ∧ (¬ r2 = r4 → False))))
set_option maxRecDepth 100000 in
set_option maxHeartbeats 4000000 in
theorem l_law_58 {p : Program} {l : Launch} {e : Env} {R : Room} {s : State} {m : MethodId} {args : Array Value} {below : List Frame} {meth : Method} {c : Code} {cells slots : Nat} {Q : State → Prop} {D : va_G} {tc : Nat → ClassId} {ad : Nat → Nat} {b Lx : Nat} {xs : Nat → Int32} {i : Int32} {K : TM → Prop} (E : Ev p s m args meth c D tc ad RL cL_law 9) (hfl : l.stackTraces = false) (hX : va_X b Lx xs s s.heap) (hbl : b < s.heap.size) (hbA : ¬ A0 ad s.heap.size b) (hw0 : vp_in i Lx) (hw1 : vp_in (i + (1 : Int32)) Lx) (hw2 : vp_in (i + (2 : Int32)) Lx) (hw3 : vp_in (i + (3 : Int32)) Lx) (hw4 : vp_in (i + (4 : Int32)) Lx) (hw5 : vp_in (i + (5 : Int32)) Lx) (hRm : 40 ≤ R.frames ∧ 1640 ≤ R.locals) (hcl : cells + 16 ≤ R.cells ∧ slots + 96 ≤ R.slots) (hK : ∀ M', K M' → Wa p l e R s m args below meth c (cells + 16) (slots + 96) Q D tc ad 9 M' 3273 [(4, .int i), (3, .ref (ad 710)), (2, .ref (ad 699)), (1, .ref (ad 0)), (0, .ref b)] []) (M : TM) (h : f_law_58 xs i M K) : Wa p l e R s m args below meth c cells slots Q D tc ad 9 M 3161 [(4, .int i), (3, .ref (ad 710)), (2, .ref (ad 699)), (1, .ref (ad 0)), (0, .ref b)] [] := by
  unfold f_law_58 at h
  refine ra_aload_n E dL_law_3161 rfl 3 rfl ?_
  refine ra_callIV (rest := []) E (c_X12_undoableCount _ _ h) (lq_X12 _) cv_X12_undoableCount ml_L_359 (by decide) (lm (by decide)) (fun R => ⟨_, cel_0 tc ad R⟩) rfl rfl rfl (Nat.le_of_ble_eq_true rfl) ⟨by omega, by omega⟩ ⟨by omega, by omega⟩ dL_law_3162 (fun r2 M1 h => ?_)
  refine ra_aload_n E dL_law_3165 rfl 2 rfl ?_
  refine ra_callIV (rest := [_]) E (c_X13_undoableCount _ _ h) lq_13L cv_X13_undoableCount ml_L_362 (by decide) (lmL (k := 699) (by decide)) (fun R => ⟨_, cel_699 tc ad R⟩) rfl rfl rfl (Nat.le_of_ble_eq_true rfl) ⟨by omega, by omega⟩ ⟨by omega, by omega⟩ dL_law_3166 (fun r4 M3 h => ?_)
  refine ra_icmp_eq (tgt := 3273) E dL_law_3169 (by decide) (fun q5 => ?_) (fun q5 => ?_)
  · replace h := h.1 q5
    exact ra_sub (L' := [(4, _), (3, _), (2, _), (1, _), (0, _)]) [0, 1, 2, 3, 4] rfl (ra_widen (k := cells + 16) (n := slots + 96) (by omega) (by omega) (hK _ h))
  · replace h := h.2 q5
    refine ra_iconst E dL_law_3172 ki_0 ?_
    exact h.elim
def f_law_59 (xs : Nat → Int32) (i : Int32) (M : TM) (K : TM → Prop) : Prop := f_L_undo M (fun r2 M1 => f_X13_undo M1 (fun r4 M3 => f_X13_thrown M3 (fun r6 M5 => ((r6 = r2 → ((¬ r2 = 0 → K M5) ∧ (r2 = 0 → (((lg_cmp (M5 710 0).toInt64 r4.toInt64) = 0 → K M5) ∧ (¬ (lg_cmp (M5 710 0).toInt64 r4.toInt64) = 0 → False))))) ∧ (¬ r6 = r2 → False)))))
set_option maxRecDepth 100000 in
set_option maxHeartbeats 4000000 in
theorem l_law_59 {p : Program} {l : Launch} {e : Env} {R : Room} {s : State} {m : MethodId} {args : Array Value} {below : List Frame} {meth : Method} {c : Code} {cells slots : Nat} {Q : State → Prop} {D : va_G} {tc : Nat → ClassId} {ad : Nat → Nat} {b Lx : Nat} {xs : Nat → Int32} {i : Int32} {K : TM → Prop} (E : Ev p s m args meth c D tc ad RL cL_law 9) (hfl : l.stackTraces = false) (hX : va_X b Lx xs s s.heap) (hbl : b < s.heap.size) (hbA : ¬ A0 ad s.heap.size b) (hw0 : vp_in i Lx) (hw1 : vp_in (i + (1 : Int32)) Lx) (hw2 : vp_in (i + (2 : Int32)) Lx) (hw3 : vp_in (i + (3 : Int32)) Lx) (hw4 : vp_in (i + (4 : Int32)) Lx) (hw5 : vp_in (i + (5 : Int32)) Lx) (hRm : 40 ≤ R.frames ∧ 1640 ≤ R.locals) (hcl : cells + 16 ≤ R.cells ∧ slots + 96 ≤ R.slots) (hK : ∀ M', K M' → Wa p l e R s m args below meth c (cells + 16) (slots + 96) Q D tc ad 9 M' 3273 [(4, .int i), (3, .ref (ad 710)), (2, .ref (ad 699)), (1, .ref (ad 0)), (0, .ref b)] []) (M : TM) (h : f_law_59 xs i M K) : Wa p l e R s m args below meth c cells slots Q D tc ad 9 M 3174 [(4, .int i), (3, .ref (ad 710)), (2, .ref (ad 699)), (1, .ref (ad 0)), (0, .ref b)] [] := by
  unfold f_law_59 at h
  refine ra_aload_n E dL_law_3174 rfl 3 rfl ?_
  refine ra_aload_n E dL_law_3175 rfl 1 rfl ?_
  refine rx_callW (rest := []) E hfl (c_L_undo _ _ h) lq_L ctw_L_undo ml_L_363 (by decide) rfl rfl (Nat.le_of_ble_eq_true rfl) ⟨by omega, by omega⟩ ⟨by omega, by omega⟩ dL_law_3176 (fun r2 M1 h => ?_)
  refine ra_istore (L' := [(5, _), (4, _), (3, _), (2, _), (1, _), (0, _)]) E dL_law_3179 (by decide) rfl ?_
  refine ra_aload_n E dL_law_3181 rfl 3 rfl ?_
  refine ra_callIV (rest := []) E (c_X13_undo _ _ h) lq_13L cv_X13_undo ml_L_366 (by decide) (lmL (k := 699) (by decide)) (fun R => ⟨_, cel_699 tc ad R⟩) rfl rfl rfl (Nat.le_of_ble_eq_true rfl) ⟨by omega, by omega⟩ ⟨by omega, by omega⟩ dL_law_3182 (fun r4 M3 h => ?_)
  refine ra_istore (L' := [(6, _), (5, _), (4, _), (3, _), (2, _), (1, _), (0, _)]) E dL_law_3185 (by decide) rfl ?_
  refine ra_aload_n E dL_law_3187 rfl 4 rfl ?_
  refine ra_callIV (rest := []) E (c_X13_thrown _ _ h) lq_13L cv_X13_thrown ml_L_170 (by decide) (lmL (k := 699) (by decide)) (fun R => ⟨_, cel_699 tc ad R⟩) rfl rfl rfl (Nat.le_of_ble_eq_true rfl) ⟨by omega, by omega⟩ ⟨by omega, by omega⟩ dL_law_3188 (fun r6 M5 h => ?_)
  refine ra_iload E dL_law_3191 1 rfl ?_
  refine ra_icmp_eq (tgt := 3198) E dL_law_3193 (by decide) (fun q7 => ?_) (fun q7 => ?_)
  · replace h := h.1 q7
    refine ra_iload E dL_law_3198 1 rfl ?_
    refine ra_if_ne (tgt := 3215) E dL_law_3200 (by decide) (fun q8 => ?_) (fun q8 => ?_)
    · replace h := h.1 q8
      refine ra_goto (tgt := 3273) E dL_law_3215 (by decide) ?_
      exact ra_sub (L' := [(4, _), (3, _), (2, _), (1, _), (0, _)]) [2, 3, 4, 5, 6] rfl (ra_widen (k := cells + 16) (n := slots + 96) (by omega) (by omega) (hK _ h))
    · replace h := h.2 q8
      refine ra_aload_n E dL_law_3203 rfl 3 rfl ?_
      refine ra_iconst E dL_law_3204 ki_0 ?_
      refine ra_lald E (lmL (by decide)) rfl dL_law_3205 ?_
      refine ra_iload E dL_law_3206 0 rfl ?_
      refine ra_i2l E dL_law_3208 rfl ?_
      refine ra_lcmp E dL_law_3209 ?_
      refine ra_if_eq (tgt := 3215) E dL_law_3210 (by decide) (fun q9 => ?_) (fun q9 => ?_)
      · replace h := h.1 q9
        refine ra_goto (tgt := 3273) E dL_law_3215 (by decide) ?_
        exact ra_sub (L' := [(4, _), (3, _), (2, _), (1, _), (0, _)]) [2, 3, 4, 5, 6] rfl (ra_widen (k := cells + 16) (n := slots + 96) (by omega) (by omega) (hK _ h))
      · replace h := h.2 q9
        refine ra_iconst E dL_law_3213 ki_0 ?_
        exact h.elim
  · replace h := h.2 q7
    refine ra_iconst E dL_law_3196 ki_0 ?_
    exact h.elim
def f_law_60 (xs : Nat → Int32) (i : Int32) (M : TM) (K : TM → Prop) : Prop := f_X12_saveSnapshot M (fun M1 => f_X13_saveSnapshot M1 (fun M2 => K M2))
set_option maxRecDepth 100000 in
set_option maxHeartbeats 4000000 in
theorem l_law_60 {p : Program} {l : Launch} {e : Env} {R : Room} {s : State} {m : MethodId} {args : Array Value} {below : List Frame} {meth : Method} {c : Code} {cells slots : Nat} {Q : State → Prop} {D : va_G} {tc : Nat → ClassId} {ad : Nat → Nat} {b Lx : Nat} {xs : Nat → Int32} {i : Int32} {K : TM → Prop} (E : Ev p s m args meth c D tc ad RL cL_law 9) (hfl : l.stackTraces = false) (hX : va_X b Lx xs s s.heap) (hbl : b < s.heap.size) (hbA : ¬ A0 ad s.heap.size b) (hw0 : vp_in i Lx) (hw1 : vp_in (i + (1 : Int32)) Lx) (hw2 : vp_in (i + (2 : Int32)) Lx) (hw3 : vp_in (i + (3 : Int32)) Lx) (hw4 : vp_in (i + (4 : Int32)) Lx) (hw5 : vp_in (i + (5 : Int32)) Lx) (hRm : 40 ≤ R.frames ∧ 1640 ≤ R.locals) (hcl : cells + 16 ≤ R.cells ∧ slots + 96 ≤ R.slots) (hK : ∀ M', K M' → Wa p l e R s m args below meth c (cells + 16) (slots + 96) Q D tc ad 9 M' 3273 [(4, .int i), (3, .ref (ad 710)), (2, .ref (ad 699)), (1, .ref (ad 0)), (0, .ref b)] []) (M : TM) (h : f_law_60 xs i M K) : Wa p l e R s m args below meth c cells slots Q D tc ad 9 M 3218 [(4, .int i), (3, .ref (ad 710)), (2, .ref (ad 699)), (1, .ref (ad 0)), (0, .ref b)] [] := by
  unfold f_law_60 at h
  refine ra_aload_n E dL_law_3218 rfl 3 rfl ?_
  refine ra_callVV (rest := []) E (c_X12_saveSnapshot _ _ h) (lq_X12 _) cv_X12_saveSnapshot ml_L_367 (by decide) (lm (by decide)) (fun R => ⟨_, cel_0 tc ad R⟩) rfl rfl rfl (Nat.le_of_ble_eq_true rfl) ⟨by omega, by omega⟩ ⟨by omega, by omega⟩ dL_law_3219 (fun M1 h => ?_)
  refine ra_aload_n E dL_law_3222 rfl 2 rfl ?_
  refine ra_callVV (rest := []) E (c_X13_saveSnapshot _ _ h) lq_13L cv_X13_saveSnapshot ml_L_370 (by decide) (lmL (k := 699) (by decide)) (fun R => ⟨_, cel_699 tc ad R⟩) rfl rfl rfl (Nat.le_of_ble_eq_true rfl) ⟨by omega, by omega⟩ ⟨by omega, by omega⟩ dL_law_3223 (fun M2 h => ?_)
  refine ra_goto (tgt := 3273) E dL_law_3226 (by decide) ?_
  exact ra_sub (L' := [(4, _), (3, _), (2, _), (1, _), (0, _)]) [0, 1, 2, 3, 4] rfl (ra_widen (k := cells + 16) (n := slots + 96) (by omega) (by omega) (hK _ h))
def f_law_61 (xs : Nat → Int32) (i : Int32) (M : TM) (K : TM → Prop) : Prop := f_L_restoreSnapshot M (fun r2 M1 => f_X13_restoreSnapshot M1 (fun r4 M3 => f_X13_thrown M3 (fun r6 M5 => ((r6 = r2 → ((¬ r2 = 0 → K M5) ∧ (r2 = 0 → (((lg_cmp (M5 710 0).toInt64 r4.toInt64) = 0 → K M5) ∧ (¬ (lg_cmp (M5 710 0).toInt64 r4.toInt64) = 0 → False))))) ∧ (¬ r6 = r2 → False)))))
set_option maxRecDepth 100000 in
set_option maxHeartbeats 4000000 in
theorem l_law_61 {p : Program} {l : Launch} {e : Env} {R : Room} {s : State} {m : MethodId} {args : Array Value} {below : List Frame} {meth : Method} {c : Code} {cells slots : Nat} {Q : State → Prop} {D : va_G} {tc : Nat → ClassId} {ad : Nat → Nat} {b Lx : Nat} {xs : Nat → Int32} {i : Int32} {K : TM → Prop} (E : Ev p s m args meth c D tc ad RL cL_law 9) (hfl : l.stackTraces = false) (hX : va_X b Lx xs s s.heap) (hbl : b < s.heap.size) (hbA : ¬ A0 ad s.heap.size b) (hw0 : vp_in i Lx) (hw1 : vp_in (i + (1 : Int32)) Lx) (hw2 : vp_in (i + (2 : Int32)) Lx) (hw3 : vp_in (i + (3 : Int32)) Lx) (hw4 : vp_in (i + (4 : Int32)) Lx) (hw5 : vp_in (i + (5 : Int32)) Lx) (hRm : 40 ≤ R.frames ∧ 1640 ≤ R.locals) (hcl : cells + 16 ≤ R.cells ∧ slots + 96 ≤ R.slots) (hK : ∀ M', K M' → Wa p l e R s m args below meth c (cells + 16) (slots + 96) Q D tc ad 9 M' 3273 [(4, .int i), (3, .ref (ad 710)), (2, .ref (ad 699)), (1, .ref (ad 0)), (0, .ref b)] []) (M : TM) (h : f_law_61 xs i M K) : Wa p l e R s m args below meth c cells slots Q D tc ad 9 M 3229 [(4, .int i), (3, .ref (ad 710)), (2, .ref (ad 699)), (1, .ref (ad 0)), (0, .ref b)] [] := by
  unfold f_law_61 at h
  refine ra_aload_n E dL_law_3229 rfl 3 rfl ?_
  refine ra_aload_n E dL_law_3230 rfl 1 rfl ?_
  refine rx_callW (rest := []) E hfl (c_L_restoreSnapshot _ _ h) lq_L ctw_L_restoreSnapshot ml_L_371 (by decide) rfl rfl (Nat.le_of_ble_eq_true rfl) ⟨by omega, by omega⟩ ⟨by omega, by omega⟩ dL_law_3231 (fun r2 M1 h => ?_)
  refine ra_istore (L' := [(5, _), (4, _), (3, _), (2, _), (1, _), (0, _)]) E dL_law_3234 (by decide) rfl ?_
  refine ra_aload_n E dL_law_3236 rfl 3 rfl ?_
  refine ra_callIV (rest := []) E (c_X13_restoreSnapshot _ _ h) lq_13L cv_X13_restoreSnapshot ml_L_373 (by decide) (lmL (k := 699) (by decide)) (fun R => ⟨_, cel_699 tc ad R⟩) rfl rfl rfl (Nat.le_of_ble_eq_true rfl) ⟨by omega, by omega⟩ ⟨by omega, by omega⟩ dL_law_3237 (fun r4 M3 h => ?_)
  refine ra_istore (L' := [(6, _), (5, _), (4, _), (3, _), (2, _), (1, _), (0, _)]) E dL_law_3240 (by decide) rfl ?_
  refine ra_aload_n E dL_law_3242 rfl 4 rfl ?_
  refine ra_callIV (rest := []) E (c_X13_thrown _ _ h) lq_13L cv_X13_thrown ml_L_170 (by decide) (lmL (k := 699) (by decide)) (fun R => ⟨_, cel_699 tc ad R⟩) rfl rfl rfl (Nat.le_of_ble_eq_true rfl) ⟨by omega, by omega⟩ ⟨by omega, by omega⟩ dL_law_3243 (fun r6 M5 h => ?_)
  refine ra_iload E dL_law_3246 1 rfl ?_
  refine ra_icmp_eq (tgt := 3253) E dL_law_3248 (by decide) (fun q7 => ?_) (fun q7 => ?_)
  · replace h := h.1 q7
    refine ra_iload E dL_law_3253 1 rfl ?_
    refine ra_if_ne (tgt := 3270) E dL_law_3255 (by decide) (fun q8 => ?_) (fun q8 => ?_)
    · replace h := h.1 q8
      refine ra_goto (tgt := 3273) E dL_law_3270 (by decide) ?_
      exact ra_sub (L' := [(4, _), (3, _), (2, _), (1, _), (0, _)]) [2, 3, 4, 5, 6] rfl (ra_widen (k := cells + 16) (n := slots + 96) (by omega) (by omega) (hK _ h))
    · replace h := h.2 q8
      refine ra_aload_n E dL_law_3258 rfl 3 rfl ?_
      refine ra_iconst E dL_law_3259 ki_0 ?_
      refine ra_lald E (lmL (by decide)) rfl dL_law_3260 ?_
      refine ra_iload E dL_law_3261 0 rfl ?_
      refine ra_i2l E dL_law_3263 rfl ?_
      refine ra_lcmp E dL_law_3264 ?_
      refine ra_if_eq (tgt := 3270) E dL_law_3265 (by decide) (fun q9 => ?_) (fun q9 => ?_)
      · replace h := h.1 q9
        refine ra_goto (tgt := 3273) E dL_law_3270 (by decide) ?_
        exact ra_sub (L' := [(4, _), (3, _), (2, _), (1, _), (0, _)]) [2, 3, 4, 5, 6] rfl (ra_widen (k := cells + 16) (n := slots + 96) (by omega) (by omega) (hK _ h))
      · replace h := h.2 q9
        refine ra_iconst E dL_law_3268 ki_0 ?_
        exact h.elim
  · replace h := h.2 q7
    refine ra_iconst E dL_law_3251 ki_0 ?_
    exact h.elim
def f_law (xs : Nat → Int32) (i : Int32) (M : TM) (K : TM → Prop) : Prop := ((xs i.toNatClampNeg &&& (63 : Int32)) = 0 → f_law_0 xs i M K) ∧ ((xs i.toNatClampNeg &&& (63 : Int32)) = 1 → f_law_1 xs i M K) ∧ ((xs i.toNatClampNeg &&& (63 : Int32)) = 2 → f_law_2 xs i M K) ∧ ((xs i.toNatClampNeg &&& (63 : Int32)) = 3 → f_law_3 xs i M K) ∧ ((xs i.toNatClampNeg &&& (63 : Int32)) = 4 → f_law_4 xs i M K) ∧ ((xs i.toNatClampNeg &&& (63 : Int32)) = 5 → f_law_5 xs i M K) ∧ ((xs i.toNatClampNeg &&& (63 : Int32)) = 6 → f_law_6 xs i M K) ∧ ((xs i.toNatClampNeg &&& (63 : Int32)) = 7 → f_law_7 xs i M K) ∧ ((xs i.toNatClampNeg &&& (63 : Int32)) = 8 → f_law_8 xs i M K) ∧ ((xs i.toNatClampNeg &&& (63 : Int32)) = 9 → f_law_9 xs i M K) ∧ ((xs i.toNatClampNeg &&& (63 : Int32)) = 10 → f_law_10 xs i M K) ∧ ((xs i.toNatClampNeg &&& (63 : Int32)) = 11 → f_law_11 xs i M K) ∧ ((xs i.toNatClampNeg &&& (63 : Int32)) = 12 → f_law_12 xs i M K) ∧ ((xs i.toNatClampNeg &&& (63 : Int32)) = 13 → f_law_13 xs i M K) ∧ ((xs i.toNatClampNeg &&& (63 : Int32)) = 14 → f_law_14 xs i M K) ∧ ((xs i.toNatClampNeg &&& (63 : Int32)) = 15 → f_law_15 xs i M K) ∧ ((xs i.toNatClampNeg &&& (63 : Int32)) = 16 → f_law_16 xs i M K) ∧ ((xs i.toNatClampNeg &&& (63 : Int32)) = 17 → f_law_17 xs i M K) ∧ ((xs i.toNatClampNeg &&& (63 : Int32)) = 18 → f_law_18 xs i M K) ∧ ((xs i.toNatClampNeg &&& (63 : Int32)) = 19 → f_law_19 xs i M K) ∧ ((xs i.toNatClampNeg &&& (63 : Int32)) = 20 → f_law_20 xs i M K) ∧ ((xs i.toNatClampNeg &&& (63 : Int32)) = 21 → f_law_21 xs i M K) ∧ ((xs i.toNatClampNeg &&& (63 : Int32)) = 22 → f_law_22 xs i M K) ∧ ((xs i.toNatClampNeg &&& (63 : Int32)) = 23 → f_law_23 xs i M K) ∧ ((xs i.toNatClampNeg &&& (63 : Int32)) = 24 → f_law_24 xs i M K) ∧ ((xs i.toNatClampNeg &&& (63 : Int32)) = 25 → f_law_25 xs i M K) ∧ ((xs i.toNatClampNeg &&& (63 : Int32)) = 26 → f_law_26 xs i M K) ∧ ((xs i.toNatClampNeg &&& (63 : Int32)) = 27 → f_law_27 xs i M K) ∧ ((xs i.toNatClampNeg &&& (63 : Int32)) = 28 → f_law_28 xs i M K) ∧ ((xs i.toNatClampNeg &&& (63 : Int32)) = 29 → f_law_29 xs i M K) ∧ ((xs i.toNatClampNeg &&& (63 : Int32)) = 30 → f_law_30 xs i M K) ∧ ((xs i.toNatClampNeg &&& (63 : Int32)) = 31 → f_law_31 xs i M K) ∧ ((xs i.toNatClampNeg &&& (63 : Int32)) = 32 → f_law_32 xs i M K) ∧ ((xs i.toNatClampNeg &&& (63 : Int32)) = 33 → f_law_33 xs i M K) ∧ ((xs i.toNatClampNeg &&& (63 : Int32)) = 34 → f_law_34 xs i M K) ∧ ((xs i.toNatClampNeg &&& (63 : Int32)) = 35 → f_law_35 xs i M K) ∧ ((xs i.toNatClampNeg &&& (63 : Int32)) = 36 → f_law_36 xs i M K) ∧ ((xs i.toNatClampNeg &&& (63 : Int32)) = 37 → f_law_37 xs i M K) ∧ ((xs i.toNatClampNeg &&& (63 : Int32)) = 38 → f_law_38 xs i M K) ∧ ((xs i.toNatClampNeg &&& (63 : Int32)) = 39 → f_law_39 xs i M K) ∧ ((xs i.toNatClampNeg &&& (63 : Int32)) = 40 → f_law_40 xs i M K) ∧ ((xs i.toNatClampNeg &&& (63 : Int32)) = 41 → f_law_41 xs i M K) ∧ ((xs i.toNatClampNeg &&& (63 : Int32)) = 42 → f_law_42 xs i M K) ∧ ((xs i.toNatClampNeg &&& (63 : Int32)) = 43 → f_law_43 xs i M K) ∧ ((xs i.toNatClampNeg &&& (63 : Int32)) = 44 → f_law_44 xs i M K) ∧ ((xs i.toNatClampNeg &&& (63 : Int32)) = 45 → f_law_45 xs i M K) ∧ ((xs i.toNatClampNeg &&& (63 : Int32)) = 46 → f_law_46 xs i M K) ∧ ((xs i.toNatClampNeg &&& (63 : Int32)) = 47 → f_law_47 xs i M K) ∧ ((xs i.toNatClampNeg &&& (63 : Int32)) = 48 → f_law_48 xs i M K) ∧ ((xs i.toNatClampNeg &&& (63 : Int32)) = 49 → f_law_49 xs i M K) ∧ ((xs i.toNatClampNeg &&& (63 : Int32)) = 50 → f_law_50 xs i M K) ∧ ((xs i.toNatClampNeg &&& (63 : Int32)) = 51 → f_law_51 xs i M K) ∧ ((xs i.toNatClampNeg &&& (63 : Int32)) = 52 → f_law_52 xs i M K) ∧ ((xs i.toNatClampNeg &&& (63 : Int32)) = 53 → f_law_53 xs i M K) ∧ ((xs i.toNatClampNeg &&& (63 : Int32)) = 54 → f_law_54 xs i M K) ∧ ((xs i.toNatClampNeg &&& (63 : Int32)) = 55 → f_law_55 xs i M K) ∧ ((xs i.toNatClampNeg &&& (63 : Int32)) = 56 → f_law_56 xs i M K) ∧ ((xs i.toNatClampNeg &&& (63 : Int32)) = 57 → f_law_57 xs i M K) ∧ ((xs i.toNatClampNeg &&& (63 : Int32)) = 58 → f_law_58 xs i M K) ∧ ((xs i.toNatClampNeg &&& (63 : Int32)) = 59 → f_law_59 xs i M K) ∧ ((xs i.toNatClampNeg &&& (63 : Int32)) = 60 → f_law_60 xs i M K) ∧ ((xs i.toNatClampNeg &&& (63 : Int32)) = 61 → f_law_61 xs i M K) ∧ (¬ (xs i.toNatClampNeg &&& (63 : Int32)) = 0 → ¬ (xs i.toNatClampNeg &&& (63 : Int32)) = 1 → ¬ (xs i.toNatClampNeg &&& (63 : Int32)) = 2 → ¬ (xs i.toNatClampNeg &&& (63 : Int32)) = 3 → ¬ (xs i.toNatClampNeg &&& (63 : Int32)) = 4 → ¬ (xs i.toNatClampNeg &&& (63 : Int32)) = 5 → ¬ (xs i.toNatClampNeg &&& (63 : Int32)) = 6 → ¬ (xs i.toNatClampNeg &&& (63 : Int32)) = 7 → ¬ (xs i.toNatClampNeg &&& (63 : Int32)) = 8 → ¬ (xs i.toNatClampNeg &&& (63 : Int32)) = 9 → ¬ (xs i.toNatClampNeg &&& (63 : Int32)) = 10 → ¬ (xs i.toNatClampNeg &&& (63 : Int32)) = 11 → ¬ (xs i.toNatClampNeg &&& (63 : Int32)) = 12 → ¬ (xs i.toNatClampNeg &&& (63 : Int32)) = 13 → ¬ (xs i.toNatClampNeg &&& (63 : Int32)) = 14 → ¬ (xs i.toNatClampNeg &&& (63 : Int32)) = 15 → ¬ (xs i.toNatClampNeg &&& (63 : Int32)) = 16 → ¬ (xs i.toNatClampNeg &&& (63 : Int32)) = 17 → ¬ (xs i.toNatClampNeg &&& (63 : Int32)) = 18 → ¬ (xs i.toNatClampNeg &&& (63 : Int32)) = 19 → ¬ (xs i.toNatClampNeg &&& (63 : Int32)) = 20 → ¬ (xs i.toNatClampNeg &&& (63 : Int32)) = 21 → ¬ (xs i.toNatClampNeg &&& (63 : Int32)) = 22 → ¬ (xs i.toNatClampNeg &&& (63 : Int32)) = 23 → ¬ (xs i.toNatClampNeg &&& (63 : Int32)) = 24 → ¬ (xs i.toNatClampNeg &&& (63 : Int32)) = 25 → ¬ (xs i.toNatClampNeg &&& (63 : Int32)) = 26 → ¬ (xs i.toNatClampNeg &&& (63 : Int32)) = 27 → ¬ (xs i.toNatClampNeg &&& (63 : Int32)) = 28 → ¬ (xs i.toNatClampNeg &&& (63 : Int32)) = 29 → ¬ (xs i.toNatClampNeg &&& (63 : Int32)) = 30 → ¬ (xs i.toNatClampNeg &&& (63 : Int32)) = 31 → ¬ (xs i.toNatClampNeg &&& (63 : Int32)) = 32 → ¬ (xs i.toNatClampNeg &&& (63 : Int32)) = 33 → ¬ (xs i.toNatClampNeg &&& (63 : Int32)) = 34 → ¬ (xs i.toNatClampNeg &&& (63 : Int32)) = 35 → ¬ (xs i.toNatClampNeg &&& (63 : Int32)) = 36 → ¬ (xs i.toNatClampNeg &&& (63 : Int32)) = 37 → ¬ (xs i.toNatClampNeg &&& (63 : Int32)) = 38 → ¬ (xs i.toNatClampNeg &&& (63 : Int32)) = 39 → ¬ (xs i.toNatClampNeg &&& (63 : Int32)) = 40 → ¬ (xs i.toNatClampNeg &&& (63 : Int32)) = 41 → ¬ (xs i.toNatClampNeg &&& (63 : Int32)) = 42 → ¬ (xs i.toNatClampNeg &&& (63 : Int32)) = 43 → ¬ (xs i.toNatClampNeg &&& (63 : Int32)) = 44 → ¬ (xs i.toNatClampNeg &&& (63 : Int32)) = 45 → ¬ (xs i.toNatClampNeg &&& (63 : Int32)) = 46 → ¬ (xs i.toNatClampNeg &&& (63 : Int32)) = 47 → ¬ (xs i.toNatClampNeg &&& (63 : Int32)) = 48 → ¬ (xs i.toNatClampNeg &&& (63 : Int32)) = 49 → ¬ (xs i.toNatClampNeg &&& (63 : Int32)) = 50 → ¬ (xs i.toNatClampNeg &&& (63 : Int32)) = 51 → ¬ (xs i.toNatClampNeg &&& (63 : Int32)) = 52 → ¬ (xs i.toNatClampNeg &&& (63 : Int32)) = 53 → ¬ (xs i.toNatClampNeg &&& (63 : Int32)) = 54 → ¬ (xs i.toNatClampNeg &&& (63 : Int32)) = 55 → ¬ (xs i.toNatClampNeg &&& (63 : Int32)) = 56 → ¬ (xs i.toNatClampNeg &&& (63 : Int32)) = 57 → ¬ (xs i.toNatClampNeg &&& (63 : Int32)) = 58 → ¬ (xs i.toNatClampNeg &&& (63 : Int32)) = 59 → ¬ (xs i.toNatClampNeg &&& (63 : Int32)) = 60 → ¬ (xs i.toNatClampNeg &&& (63 : Int32)) = 61 → K M)
set_option maxRecDepth 100000 in
set_option maxHeartbeats 4000000 in
theorem l_law_sw {p : Program} {l : Launch} {e : Env} {R : Room} {s : State} {m : MethodId} {args : Array Value} {below : List Frame} {meth : Method} {c : Code} {cells slots : Nat} {Q : State → Prop} {D : va_G} {tc : Nat → ClassId} {ad : Nat → Nat} {b Lx : Nat} {xs : Nat → Int32} {i : Int32} {K : TM → Prop} (E : Ev p s m args meth c D tc ad RL cL_law 9) (hfl : l.stackTraces = false) (hX : va_X b Lx xs s s.heap) (hbl : b < s.heap.size) (hbA : ¬ A0 ad s.heap.size b) (hw0 : vp_in i Lx) (hw1 : vp_in (i + (1 : Int32)) Lx) (hw2 : vp_in (i + (2 : Int32)) Lx) (hw3 : vp_in (i + (3 : Int32)) Lx) (hw4 : vp_in (i + (4 : Int32)) Lx) (hw5 : vp_in (i + (5 : Int32)) Lx) (hRm : 40 ≤ R.frames ∧ 1640 ≤ R.locals) (hcl : cells + 16 ≤ R.cells ∧ slots + 96 ≤ R.slots) (hK : ∀ M', K M' → Wa p l e R s m args below meth c (cells + 16) (slots + 96) Q D tc ad 9 M' 3273 [(4, .int i), (3, .ref (ad 710)), (2, .ref (ad 699)), (1, .ref (ad 0)), (0, .ref b)] []) (M : TM) (h : f_law xs i M K) : Wa p l e R s m args below meth c cells slots Q D tc ad 9 M 40 [(4, .int i), (3, .ref (ad 710)), (2, .ref (ad 699)), (1, .ref (ad 0)), (0, .ref b)] [.int (xs i.toNatClampNeg &&& (63 : Int32))] := by
  unfold f_law at h
  by_cases q_0 : (xs i.toNatClampNeg &&& (63 : Int32)) = 0
  · replace h := h.1 q_0
    refine ra_tableIn (tgt := 304) (off := 264) E dL_law_40 (by rw [q_0]; decide) (by rw [q_0]; decide) (by rw [q_0]; decide) (by decide) ?_
    exact l_law_0 E hfl hX hbl hbA hw0 hw1 hw2 hw3 hw4 hw5 hRm hcl hK M h
  by_cases q_1 : (xs i.toNatClampNeg &&& (63 : Int32)) = 1
  · replace h := h.2.1 q_1
    refine ra_tableIn (tgt := 377) (off := 337) E dL_law_40 (by rw [q_1]; decide) (by rw [q_1]; decide) (by rw [q_1]; decide) (by decide) ?_
    exact l_law_1 E hfl hX hbl hbA hw0 hw1 hw2 hw3 hw4 hw5 hRm hcl hK M h
  by_cases q_2 : (xs i.toNatClampNeg &&& (63 : Int32)) = 2
  · replace h := h.2.2.1 q_2
    refine ra_tableIn (tgt := 433) (off := 393) E dL_law_40 (by rw [q_2]; decide) (by rw [q_2]; decide) (by rw [q_2]; decide) (by decide) ?_
    exact l_law_2 E hfl hX hbl hbA hw0 hw1 hw2 hw3 hw4 hw5 hRm hcl hK M h
  by_cases q_3 : (xs i.toNatClampNeg &&& (63 : Int32)) = 3
  · replace h := h.2.2.2.1 q_3
    refine ra_tableIn (tgt := 446) (off := 406) E dL_law_40 (by rw [q_3]; decide) (by rw [q_3]; decide) (by rw [q_3]; decide) (by decide) ?_
    exact l_law_3 E hfl hX hbl hbA hw0 hw1 hw2 hw3 hw4 hw5 hRm hcl hK M h
  by_cases q_4 : (xs i.toNatClampNeg &&& (63 : Int32)) = 4
  · replace h := h.2.2.2.2.1 q_4
    refine ra_tableIn (tgt := 459) (off := 419) E dL_law_40 (by rw [q_4]; decide) (by rw [q_4]; decide) (by rw [q_4]; decide) (by decide) ?_
    exact l_law_4 E hfl hX hbl hbA hw0 hw1 hw2 hw3 hw4 hw5 hRm hcl hK M h
  by_cases q_5 : (xs i.toNatClampNeg &&& (63 : Int32)) = 5
  · replace h := h.2.2.2.2.2.1 q_5
    refine ra_tableIn (tgt := 472) (off := 432) E dL_law_40 (by rw [q_5]; decide) (by rw [q_5]; decide) (by rw [q_5]; decide) (by decide) ?_
    exact l_law_5 E hfl hX hbl hbA hw0 hw1 hw2 hw3 hw4 hw5 hRm hcl hK M h
  by_cases q_6 : (xs i.toNatClampNeg &&& (63 : Int32)) = 6
  · replace h := h.2.2.2.2.2.2.1 q_6
    refine ra_tableIn (tgt := 485) (off := 445) E dL_law_40 (by rw [q_6]; decide) (by rw [q_6]; decide) (by rw [q_6]; decide) (by decide) ?_
    exact l_law_6 E hfl hX hbl hbA hw0 hw1 hw2 hw3 hw4 hw5 hRm hcl hK M h
  by_cases q_7 : (xs i.toNatClampNeg &&& (63 : Int32)) = 7
  · replace h := h.2.2.2.2.2.2.2.1 q_7
    refine ra_tableIn (tgt := 541) (off := 501) E dL_law_40 (by rw [q_7]; decide) (by rw [q_7]; decide) (by rw [q_7]; decide) (by decide) ?_
    exact l_law_7 E hfl hX hbl hbA hw0 hw1 hw2 hw3 hw4 hw5 hRm hcl hK M h
  by_cases q_8 : (xs i.toNatClampNeg &&& (63 : Int32)) = 8
  · replace h := h.2.2.2.2.2.2.2.2.1 q_8
    refine ra_tableIn (tgt := 597) (off := 557) E dL_law_40 (by rw [q_8]; decide) (by rw [q_8]; decide) (by rw [q_8]; decide) (by decide) ?_
    exact l_law_8 E hfl hX hbl hbA hw0 hw1 hw2 hw3 hw4 hw5 hRm hcl hK M h
  by_cases q_9 : (xs i.toNatClampNeg &&& (63 : Int32)) = 9
  · replace h := h.2.2.2.2.2.2.2.2.2.1 q_9
    refine ra_tableIn (tgt := 653) (off := 613) E dL_law_40 (by rw [q_9]; decide) (by rw [q_9]; decide) (by rw [q_9]; decide) (by decide) ?_
    exact l_law_9 E hfl hX hbl hbA hw0 hw1 hw2 hw3 hw4 hw5 hRm hcl hK M h
  by_cases q_10 : (xs i.toNatClampNeg &&& (63 : Int32)) = 10
  · replace h := h.2.2.2.2.2.2.2.2.2.2.1 q_10
    refine ra_tableIn (tgt := 709) (off := 669) E dL_law_40 (by rw [q_10]; decide) (by rw [q_10]; decide) (by rw [q_10]; decide) (by decide) ?_
    exact l_law_10 E hfl hX hbl hbA hw0 hw1 hw2 hw3 hw4 hw5 hRm hcl hK M h
  by_cases q_11 : (xs i.toNatClampNeg &&& (63 : Int32)) = 11
  · replace h := h.2.2.2.2.2.2.2.2.2.2.2.1 q_11
    refine ra_tableIn (tgt := 765) (off := 725) E dL_law_40 (by rw [q_11]; decide) (by rw [q_11]; decide) (by rw [q_11]; decide) (by decide) ?_
    exact l_law_11 E hfl hX hbl hbA hw0 hw1 hw2 hw3 hw4 hw5 hRm hcl hK M h
  by_cases q_12 : (xs i.toNatClampNeg &&& (63 : Int32)) = 12
  · replace h := h.2.2.2.2.2.2.2.2.2.2.2.2.1 q_12
    refine ra_tableIn (tgt := 821) (off := 781) E dL_law_40 (by rw [q_12]; decide) (by rw [q_12]; decide) (by rw [q_12]; decide) (by decide) ?_
    exact l_law_12 E hfl hX hbl hbA hw0 hw1 hw2 hw3 hw4 hw5 hRm hcl hK M h
  by_cases q_13 : (xs i.toNatClampNeg &&& (63 : Int32)) = 13
  · replace h := h.2.2.2.2.2.2.2.2.2.2.2.2.2.1 q_13
    refine ra_tableIn (tgt := 834) (off := 794) E dL_law_40 (by rw [q_13]; decide) (by rw [q_13]; decide) (by rw [q_13]; decide) (by decide) ?_
    exact l_law_13 E hfl hX hbl hbA hw0 hw1 hw2 hw3 hw4 hw5 hRm hcl hK M h
  by_cases q_14 : (xs i.toNatClampNeg &&& (63 : Int32)) = 14
  · replace h := h.2.2.2.2.2.2.2.2.2.2.2.2.2.2.1 q_14
    refine ra_tableIn (tgt := 890) (off := 850) E dL_law_40 (by rw [q_14]; decide) (by rw [q_14]; decide) (by rw [q_14]; decide) (by decide) ?_
    exact l_law_14 E hfl hX hbl hbA hw0 hw1 hw2 hw3 hw4 hw5 hRm hcl hK M h
  by_cases q_15 : (xs i.toNatClampNeg &&& (63 : Int32)) = 15
  · replace h := h.2.2.2.2.2.2.2.2.2.2.2.2.2.2.2.1 q_15
    refine ra_tableIn (tgt := 946) (off := 906) E dL_law_40 (by rw [q_15]; decide) (by rw [q_15]; decide) (by rw [q_15]; decide) (by decide) ?_
    exact l_law_15 E hfl hX hbl hbA hw0 hw1 hw2 hw3 hw4 hw5 hRm hcl hK M h
  by_cases q_16 : (xs i.toNatClampNeg &&& (63 : Int32)) = 16
  · replace h := h.2.2.2.2.2.2.2.2.2.2.2.2.2.2.2.2.1 q_16
    refine ra_tableIn (tgt := 1002) (off := 962) E dL_law_40 (by rw [q_16]; decide) (by rw [q_16]; decide) (by rw [q_16]; decide) (by decide) ?_
    exact l_law_16 E hfl hX hbl hbA hw0 hw1 hw2 hw3 hw4 hw5 hRm hcl hK M h
  by_cases q_17 : (xs i.toNatClampNeg &&& (63 : Int32)) = 17
  · replace h := h.2.2.2.2.2.2.2.2.2.2.2.2.2.2.2.2.2.1 q_17
    refine ra_tableIn (tgt := 1058) (off := 1018) E dL_law_40 (by rw [q_17]; decide) (by rw [q_17]; decide) (by rw [q_17]; decide) (by decide) ?_
    exact l_law_17 E hfl hX hbl hbA hw0 hw1 hw2 hw3 hw4 hw5 hRm hcl hK M h
  by_cases q_18 : (xs i.toNatClampNeg &&& (63 : Int32)) = 18
  · replace h := h.2.2.2.2.2.2.2.2.2.2.2.2.2.2.2.2.2.2.1 q_18
    refine ra_tableIn (tgt := 1114) (off := 1074) E dL_law_40 (by rw [q_18]; decide) (by rw [q_18]; decide) (by rw [q_18]; decide) (by decide) ?_
    exact l_law_18 E hfl hX hbl hbA hw0 hw1 hw2 hw3 hw4 hw5 hRm hcl hK M h
  by_cases q_19 : (xs i.toNatClampNeg &&& (63 : Int32)) = 19
  · replace h := h.2.2.2.2.2.2.2.2.2.2.2.2.2.2.2.2.2.2.2.1 q_19
    refine ra_tableIn (tgt := 1170) (off := 1130) E dL_law_40 (by rw [q_19]; decide) (by rw [q_19]; decide) (by rw [q_19]; decide) (by decide) ?_
    exact l_law_19 E hfl hX hbl hbA hw0 hw1 hw2 hw3 hw4 hw5 hRm hcl hK M h
  by_cases q_20 : (xs i.toNatClampNeg &&& (63 : Int32)) = 20
  · replace h := h.2.2.2.2.2.2.2.2.2.2.2.2.2.2.2.2.2.2.2.2.1 q_20
    refine ra_tableIn (tgt := 1226) (off := 1186) E dL_law_40 (by rw [q_20]; decide) (by rw [q_20]; decide) (by rw [q_20]; decide) (by decide) ?_
    exact l_law_20 E hfl hX hbl hbA hw0 hw1 hw2 hw3 hw4 hw5 hRm hcl hK M h
  by_cases q_21 : (xs i.toNatClampNeg &&& (63 : Int32)) = 21
  · replace h := h.2.2.2.2.2.2.2.2.2.2.2.2.2.2.2.2.2.2.2.2.2.1 q_21
    refine ra_tableIn (tgt := 1282) (off := 1242) E dL_law_40 (by rw [q_21]; decide) (by rw [q_21]; decide) (by rw [q_21]; decide) (by decide) ?_
    exact l_law_21 E hfl hX hbl hbA hw0 hw1 hw2 hw3 hw4 hw5 hRm hcl hK M h
  by_cases q_22 : (xs i.toNatClampNeg &&& (63 : Int32)) = 22
  · replace h := h.2.2.2.2.2.2.2.2.2.2.2.2.2.2.2.2.2.2.2.2.2.2.1 q_22
    refine ra_tableIn (tgt := 1350) (off := 1310) E dL_law_40 (by rw [q_22]; decide) (by rw [q_22]; decide) (by rw [q_22]; decide) (by decide) ?_
    exact l_law_22 E hfl hX hbl hbA hw0 hw1 hw2 hw3 hw4 hw5 hRm hcl hK M h
  by_cases q_23 : (xs i.toNatClampNeg &&& (63 : Int32)) = 23
  · replace h := h.2.2.2.2.2.2.2.2.2.2.2.2.2.2.2.2.2.2.2.2.2.2.2.1 q_23
    refine ra_tableIn (tgt := 1406) (off := 1366) E dL_law_40 (by rw [q_23]; decide) (by rw [q_23]; decide) (by rw [q_23]; decide) (by decide) ?_
    exact l_law_23 E hfl hX hbl hbA hw0 hw1 hw2 hw3 hw4 hw5 hRm hcl hK M h
  by_cases q_24 : (xs i.toNatClampNeg &&& (63 : Int32)) = 24
  · replace h := h.2.2.2.2.2.2.2.2.2.2.2.2.2.2.2.2.2.2.2.2.2.2.2.2.1 q_24
    refine ra_tableIn (tgt := 1462) (off := 1422) E dL_law_40 (by rw [q_24]; decide) (by rw [q_24]; decide) (by rw [q_24]; decide) (by decide) ?_
    exact l_law_24 E hfl hX hbl hbA hw0 hw1 hw2 hw3 hw4 hw5 hRm hcl hK M h
  by_cases q_25 : (xs i.toNatClampNeg &&& (63 : Int32)) = 25
  · replace h := h.2.2.2.2.2.2.2.2.2.2.2.2.2.2.2.2.2.2.2.2.2.2.2.2.2.1 q_25
    refine ra_tableIn (tgt := 1475) (off := 1435) E dL_law_40 (by rw [q_25]; decide) (by rw [q_25]; decide) (by rw [q_25]; decide) (by decide) ?_
    exact l_law_25 E hfl hX hbl hbA hw0 hw1 hw2 hw3 hw4 hw5 hRm hcl hK M h
  by_cases q_26 : (xs i.toNatClampNeg &&& (63 : Int32)) = 26
  · replace h := h.2.2.2.2.2.2.2.2.2.2.2.2.2.2.2.2.2.2.2.2.2.2.2.2.2.2.1 q_26
    refine ra_tableIn (tgt := 1531) (off := 1491) E dL_law_40 (by rw [q_26]; decide) (by rw [q_26]; decide) (by rw [q_26]; decide) (by decide) ?_
    exact l_law_26 E hfl hX hbl hbA hw0 hw1 hw2 hw3 hw4 hw5 hRm hcl hK M h
  by_cases q_27 : (xs i.toNatClampNeg &&& (63 : Int32)) = 27
  · replace h := h.2.2.2.2.2.2.2.2.2.2.2.2.2.2.2.2.2.2.2.2.2.2.2.2.2.2.2.1 q_27
    refine ra_tableIn (tgt := 1587) (off := 1547) E dL_law_40 (by rw [q_27]; decide) (by rw [q_27]; decide) (by rw [q_27]; decide) (by decide) ?_
    exact l_law_27 E hfl hX hbl hbA hw0 hw1 hw2 hw3 hw4 hw5 hRm hcl hK M h
  by_cases q_28 : (xs i.toNatClampNeg &&& (63 : Int32)) = 28
  · replace h := h.2.2.2.2.2.2.2.2.2.2.2.2.2.2.2.2.2.2.2.2.2.2.2.2.2.2.2.2.1 q_28
    refine ra_tableIn (tgt := 1643) (off := 1603) E dL_law_40 (by rw [q_28]; decide) (by rw [q_28]; decide) (by rw [q_28]; decide) (by decide) ?_
    exact l_law_28 E hfl hX hbl hbA hw0 hw1 hw2 hw3 hw4 hw5 hRm hcl hK M h
  by_cases q_29 : (xs i.toNatClampNeg &&& (63 : Int32)) = 29
  · replace h := h.2.2.2.2.2.2.2.2.2.2.2.2.2.2.2.2.2.2.2.2.2.2.2.2.2.2.2.2.2.1 q_29
    refine ra_tableIn (tgt := 1699) (off := 1659) E dL_law_40 (by rw [q_29]; decide) (by rw [q_29]; decide) (by rw [q_29]; decide) (by decide) ?_
    exact l_law_29 E hfl hX hbl hbA hw0 hw1 hw2 hw3 hw4 hw5 hRm hcl hK M h
  by_cases q_30 : (xs i.toNatClampNeg &&& (63 : Int32)) = 30
  · replace h := h.2.2.2.2.2.2.2.2.2.2.2.2.2.2.2.2.2.2.2.2.2.2.2.2.2.2.2.2.2.2.1 q_30
    refine ra_tableIn (tgt := 1755) (off := 1715) E dL_law_40 (by rw [q_30]; decide) (by rw [q_30]; decide) (by rw [q_30]; decide) (by decide) ?_
    exact l_law_30 E hfl hX hbl hbA hw0 hw1 hw2 hw3 hw4 hw5 hRm hcl hK M h
  by_cases q_31 : (xs i.toNatClampNeg &&& (63 : Int32)) = 31
  · replace h := h.2.2.2.2.2.2.2.2.2.2.2.2.2.2.2.2.2.2.2.2.2.2.2.2.2.2.2.2.2.2.2.1 q_31
    refine ra_tableIn (tgt := 1811) (off := 1771) E dL_law_40 (by rw [q_31]; decide) (by rw [q_31]; decide) (by rw [q_31]; decide) (by decide) ?_
    exact l_law_31 E hfl hX hbl hbA hw0 hw1 hw2 hw3 hw4 hw5 hRm hcl hK M h
  by_cases q_32 : (xs i.toNatClampNeg &&& (63 : Int32)) = 32
  · replace h := h.2.2.2.2.2.2.2.2.2.2.2.2.2.2.2.2.2.2.2.2.2.2.2.2.2.2.2.2.2.2.2.2.1 q_32
    refine ra_tableIn (tgt := 1874) (off := 1834) E dL_law_40 (by rw [q_32]; decide) (by rw [q_32]; decide) (by rw [q_32]; decide) (by decide) ?_
    exact l_law_32 E hfl hX hbl hbA hw0 hw1 hw2 hw3 hw4 hw5 hRm hcl hK M h
  by_cases q_33 : (xs i.toNatClampNeg &&& (63 : Int32)) = 33
  · replace h := h.2.2.2.2.2.2.2.2.2.2.2.2.2.2.2.2.2.2.2.2.2.2.2.2.2.2.2.2.2.2.2.2.2.1 q_33
    refine ra_tableIn (tgt := 1937) (off := 1897) E dL_law_40 (by rw [q_33]; decide) (by rw [q_33]; decide) (by rw [q_33]; decide) (by decide) ?_
    exact l_law_33 E hfl hX hbl hbA hw0 hw1 hw2 hw3 hw4 hw5 hRm hcl hK M h
  by_cases q_34 : (xs i.toNatClampNeg &&& (63 : Int32)) = 34
  · replace h := h.2.2.2.2.2.2.2.2.2.2.2.2.2.2.2.2.2.2.2.2.2.2.2.2.2.2.2.2.2.2.2.2.2.2.1 q_34
    refine ra_tableIn (tgt := 2000) (off := 1960) E dL_law_40 (by rw [q_34]; decide) (by rw [q_34]; decide) (by rw [q_34]; decide) (by decide) ?_
    exact l_law_34 E hfl hX hbl hbA hw0 hw1 hw2 hw3 hw4 hw5 hRm hcl hK M h
  by_cases q_35 : (xs i.toNatClampNeg &&& (63 : Int32)) = 35
  · replace h := h.2.2.2.2.2.2.2.2.2.2.2.2.2.2.2.2.2.2.2.2.2.2.2.2.2.2.2.2.2.2.2.2.2.2.2.1 q_35
    refine ra_tableIn (tgt := 2013) (off := 1973) E dL_law_40 (by rw [q_35]; decide) (by rw [q_35]; decide) (by rw [q_35]; decide) (by decide) ?_
    exact l_law_35 E hfl hX hbl hbA hw0 hw1 hw2 hw3 hw4 hw5 hRm hcl hK M h
  by_cases q_36 : (xs i.toNatClampNeg &&& (63 : Int32)) = 36
  · replace h := h.2.2.2.2.2.2.2.2.2.2.2.2.2.2.2.2.2.2.2.2.2.2.2.2.2.2.2.2.2.2.2.2.2.2.2.2.1 q_36
    refine ra_tableIn (tgt := 2026) (off := 1986) E dL_law_40 (by rw [q_36]; decide) (by rw [q_36]; decide) (by rw [q_36]; decide) (by decide) ?_
    exact l_law_36 E hfl hX hbl hbA hw0 hw1 hw2 hw3 hw4 hw5 hRm hcl hK M h
  by_cases q_37 : (xs i.toNatClampNeg &&& (63 : Int32)) = 37
  · replace h := h.2.2.2.2.2.2.2.2.2.2.2.2.2.2.2.2.2.2.2.2.2.2.2.2.2.2.2.2.2.2.2.2.2.2.2.2.2.1 q_37
    refine ra_tableIn (tgt := 2039) (off := 1999) E dL_law_40 (by rw [q_37]; decide) (by rw [q_37]; decide) (by rw [q_37]; decide) (by decide) ?_
    exact l_law_37 E hfl hX hbl hbA hw0 hw1 hw2 hw3 hw4 hw5 hRm hcl hK M h
  by_cases q_38 : (xs i.toNatClampNeg &&& (63 : Int32)) = 38
  · replace h := h.2.2.2.2.2.2.2.2.2.2.2.2.2.2.2.2.2.2.2.2.2.2.2.2.2.2.2.2.2.2.2.2.2.2.2.2.2.2.1 q_38
    refine ra_tableIn (tgt := 2052) (off := 2012) E dL_law_40 (by rw [q_38]; decide) (by rw [q_38]; decide) (by rw [q_38]; decide) (by decide) ?_
    exact l_law_38 E hfl hX hbl hbA hw0 hw1 hw2 hw3 hw4 hw5 hRm hcl hK M h
  by_cases q_39 : (xs i.toNatClampNeg &&& (63 : Int32)) = 39
  · replace h := h.2.2.2.2.2.2.2.2.2.2.2.2.2.2.2.2.2.2.2.2.2.2.2.2.2.2.2.2.2.2.2.2.2.2.2.2.2.2.2.1 q_39
    refine ra_tableIn (tgt := 2093) (off := 2053) E dL_law_40 (by rw [q_39]; decide) (by rw [q_39]; decide) (by rw [q_39]; decide) (by decide) ?_
    exact l_law_39 E hfl hX hbl hbA hw0 hw1 hw2 hw3 hw4 hw5 hRm hcl hK M h
  by_cases q_40 : (xs i.toNatClampNeg &&& (63 : Int32)) = 40
  · replace h := h.2.2.2.2.2.2.2.2.2.2.2.2.2.2.2.2.2.2.2.2.2.2.2.2.2.2.2.2.2.2.2.2.2.2.2.2.2.2.2.2.1 q_40
    refine ra_tableIn (tgt := 2136) (off := 2096) E dL_law_40 (by rw [q_40]; decide) (by rw [q_40]; decide) (by rw [q_40]; decide) (by decide) ?_
    exact l_law_40 E hfl hX hbl hbA hw0 hw1 hw2 hw3 hw4 hw5 hRm hcl hK M h
  by_cases q_41 : (xs i.toNatClampNeg &&& (63 : Int32)) = 41
  · replace h := h.2.2.2.2.2.2.2.2.2.2.2.2.2.2.2.2.2.2.2.2.2.2.2.2.2.2.2.2.2.2.2.2.2.2.2.2.2.2.2.2.2.1 q_41
    refine ra_tableIn (tgt := 2149) (off := 2109) E dL_law_40 (by rw [q_41]; decide) (by rw [q_41]; decide) (by rw [q_41]; decide) (by decide) ?_
    exact l_law_41 E hfl hX hbl hbA hw0 hw1 hw2 hw3 hw4 hw5 hRm hcl hK M h
  by_cases q_42 : (xs i.toNatClampNeg &&& (63 : Int32)) = 42
  · replace h := h.2.2.2.2.2.2.2.2.2.2.2.2.2.2.2.2.2.2.2.2.2.2.2.2.2.2.2.2.2.2.2.2.2.2.2.2.2.2.2.2.2.2.1 q_42
    refine ra_tableIn (tgt := 2217) (off := 2177) E dL_law_40 (by rw [q_42]; decide) (by rw [q_42]; decide) (by rw [q_42]; decide) (by decide) ?_
    exact l_law_42 E hfl hX hbl hbA hw0 hw1 hw2 hw3 hw4 hw5 hRm hcl hK M h
  by_cases q_43 : (xs i.toNatClampNeg &&& (63 : Int32)) = 43
  · replace h := h.2.2.2.2.2.2.2.2.2.2.2.2.2.2.2.2.2.2.2.2.2.2.2.2.2.2.2.2.2.2.2.2.2.2.2.2.2.2.2.2.2.2.2.1 q_43
    refine ra_tableIn (tgt := 2285) (off := 2245) E dL_law_40 (by rw [q_43]; decide) (by rw [q_43]; decide) (by rw [q_43]; decide) (by decide) ?_
    exact l_law_43 E hfl hX hbl hbA hw0 hw1 hw2 hw3 hw4 hw5 hRm hcl hK M h
  by_cases q_44 : (xs i.toNatClampNeg &&& (63 : Int32)) = 44
  · replace h := h.2.2.2.2.2.2.2.2.2.2.2.2.2.2.2.2.2.2.2.2.2.2.2.2.2.2.2.2.2.2.2.2.2.2.2.2.2.2.2.2.2.2.2.2.1 q_44
    refine ra_tableIn (tgt := 2341) (off := 2301) E dL_law_40 (by rw [q_44]; decide) (by rw [q_44]; decide) (by rw [q_44]; decide) (by decide) ?_
    exact l_law_44 E hfl hX hbl hbA hw0 hw1 hw2 hw3 hw4 hw5 hRm hcl hK M h
  by_cases q_45 : (xs i.toNatClampNeg &&& (63 : Int32)) = 45
  · replace h := h.2.2.2.2.2.2.2.2.2.2.2.2.2.2.2.2.2.2.2.2.2.2.2.2.2.2.2.2.2.2.2.2.2.2.2.2.2.2.2.2.2.2.2.2.2.1 q_45
    refine ra_tableIn (tgt := 2404) (off := 2364) E dL_law_40 (by rw [q_45]; decide) (by rw [q_45]; decide) (by rw [q_45]; decide) (by decide) ?_
    exact l_law_45 E hfl hX hbl hbA hw0 hw1 hw2 hw3 hw4 hw5 hRm hcl hK M h
  by_cases q_46 : (xs i.toNatClampNeg &&& (63 : Int32)) = 46
  · replace h := h.2.2.2.2.2.2.2.2.2.2.2.2.2.2.2.2.2.2.2.2.2.2.2.2.2.2.2.2.2.2.2.2.2.2.2.2.2.2.2.2.2.2.2.2.2.2.1 q_46
    refine ra_tableIn (tgt := 2460) (off := 2420) E dL_law_40 (by rw [q_46]; decide) (by rw [q_46]; decide) (by rw [q_46]; decide) (by decide) ?_
    exact l_law_46 E hfl hX hbl hbA hw0 hw1 hw2 hw3 hw4 hw5 hRm hcl hK M h
  by_cases q_47 : (xs i.toNatClampNeg &&& (63 : Int32)) = 47
  · replace h := h.2.2.2.2.2.2.2.2.2.2.2.2.2.2.2.2.2.2.2.2.2.2.2.2.2.2.2.2.2.2.2.2.2.2.2.2.2.2.2.2.2.2.2.2.2.2.2.1 q_47
    refine ra_tableIn (tgt := 2516) (off := 2476) E dL_law_40 (by rw [q_47]; decide) (by rw [q_47]; decide) (by rw [q_47]; decide) (by decide) ?_
    exact l_law_47 E hfl hX hbl hbA hw0 hw1 hw2 hw3 hw4 hw5 hRm hcl hK M h
  by_cases q_48 : (xs i.toNatClampNeg &&& (63 : Int32)) = 48
  · replace h := h.2.2.2.2.2.2.2.2.2.2.2.2.2.2.2.2.2.2.2.2.2.2.2.2.2.2.2.2.2.2.2.2.2.2.2.2.2.2.2.2.2.2.2.2.2.2.2.2.1 q_48
    refine ra_tableIn (tgt := 2584) (off := 2544) E dL_law_40 (by rw [q_48]; decide) (by rw [q_48]; decide) (by rw [q_48]; decide) (by decide) ?_
    exact l_law_48 E hfl hX hbl hbA hw0 hw1 hw2 hw3 hw4 hw5 hRm hcl hK M h
  by_cases q_49 : (xs i.toNatClampNeg &&& (63 : Int32)) = 49
  · replace h := h.2.2.2.2.2.2.2.2.2.2.2.2.2.2.2.2.2.2.2.2.2.2.2.2.2.2.2.2.2.2.2.2.2.2.2.2.2.2.2.2.2.2.2.2.2.2.2.2.2.1 q_49
    refine ra_tableIn (tgt := 2676) (off := 2636) E dL_law_40 (by rw [q_49]; decide) (by rw [q_49]; decide) (by rw [q_49]; decide) (by decide) ?_
    exact l_law_49 E hfl hX hbl hbA hw0 hw1 hw2 hw3 hw4 hw5 hRm hcl hK M h
  by_cases q_50 : (xs i.toNatClampNeg &&& (63 : Int32)) = 50
  · replace h := h.2.2.2.2.2.2.2.2.2.2.2.2.2.2.2.2.2.2.2.2.2.2.2.2.2.2.2.2.2.2.2.2.2.2.2.2.2.2.2.2.2.2.2.2.2.2.2.2.2.2.1 q_50
    refine ra_tableIn (tgt := 2744) (off := 2704) E dL_law_40 (by rw [q_50]; decide) (by rw [q_50]; decide) (by rw [q_50]; decide) (by decide) ?_
    exact l_law_50 E hfl hX hbl hbA hw0 hw1 hw2 hw3 hw4 hw5 hRm hcl hK M h
  by_cases q_51 : (xs i.toNatClampNeg &&& (63 : Int32)) = 51
  · replace h := h.2.2.2.2.2.2.2.2.2.2.2.2.2.2.2.2.2.2.2.2.2.2.2.2.2.2.2.2.2.2.2.2.2.2.2.2.2.2.2.2.2.2.2.2.2.2.2.2.2.2.2.1 q_51
    refine ra_tableIn (tgt := 2800) (off := 2760) E dL_law_40 (by rw [q_51]; decide) (by rw [q_51]; decide) (by rw [q_51]; decide) (by decide) ?_
    exact l_law_51 E hfl hX hbl hbA hw0 hw1 hw2 hw3 hw4 hw5 hRm hcl hK M h
  by_cases q_52 : (xs i.toNatClampNeg &&& (63 : Int32)) = 52
  · replace h := h.2.2.2.2.2.2.2.2.2.2.2.2.2.2.2.2.2.2.2.2.2.2.2.2.2.2.2.2.2.2.2.2.2.2.2.2.2.2.2.2.2.2.2.2.2.2.2.2.2.2.2.2.1 q_52
    refine ra_tableIn (tgt := 2868) (off := 2828) E dL_law_40 (by rw [q_52]; decide) (by rw [q_52]; decide) (by rw [q_52]; decide) (by decide) ?_
    exact l_law_52 E hfl hX hbl hbA hw0 hw1 hw2 hw3 hw4 hw5 hRm hcl hK M h
  by_cases q_53 : (xs i.toNatClampNeg &&& (63 : Int32)) = 53
  · replace h := h.2.2.2.2.2.2.2.2.2.2.2.2.2.2.2.2.2.2.2.2.2.2.2.2.2.2.2.2.2.2.2.2.2.2.2.2.2.2.2.2.2.2.2.2.2.2.2.2.2.2.2.2.2.1 q_53
    refine ra_tableIn (tgt := 2924) (off := 2884) E dL_law_40 (by rw [q_53]; decide) (by rw [q_53]; decide) (by rw [q_53]; decide) (by decide) ?_
    exact l_law_53 E hfl hX hbl hbA hw0 hw1 hw2 hw3 hw4 hw5 hRm hcl hK M h
  by_cases q_54 : (xs i.toNatClampNeg &&& (63 : Int32)) = 54
  · replace h := h.2.2.2.2.2.2.2.2.2.2.2.2.2.2.2.2.2.2.2.2.2.2.2.2.2.2.2.2.2.2.2.2.2.2.2.2.2.2.2.2.2.2.2.2.2.2.2.2.2.2.2.2.2.2.1 q_54
    refine ra_tableIn (tgt := 2980) (off := 2940) E dL_law_40 (by rw [q_54]; decide) (by rw [q_54]; decide) (by rw [q_54]; decide) (by decide) ?_
    exact l_law_54 E hfl hX hbl hbA hw0 hw1 hw2 hw3 hw4 hw5 hRm hcl hK M h
  by_cases q_55 : (xs i.toNatClampNeg &&& (63 : Int32)) = 55
  · replace h := h.2.2.2.2.2.2.2.2.2.2.2.2.2.2.2.2.2.2.2.2.2.2.2.2.2.2.2.2.2.2.2.2.2.2.2.2.2.2.2.2.2.2.2.2.2.2.2.2.2.2.2.2.2.2.2.1 q_55
    refine ra_tableIn (tgt := 3036) (off := 2996) E dL_law_40 (by rw [q_55]; decide) (by rw [q_55]; decide) (by rw [q_55]; decide) (by decide) ?_
    exact l_law_55 E hfl hX hbl hbA hw0 hw1 hw2 hw3 hw4 hw5 hRm hcl hK M h
  by_cases q_56 : (xs i.toNatClampNeg &&& (63 : Int32)) = 56
  · replace h := h.2.2.2.2.2.2.2.2.2.2.2.2.2.2.2.2.2.2.2.2.2.2.2.2.2.2.2.2.2.2.2.2.2.2.2.2.2.2.2.2.2.2.2.2.2.2.2.2.2.2.2.2.2.2.2.2.1 q_56
    refine ra_tableIn (tgt := 3092) (off := 3052) E dL_law_40 (by rw [q_56]; decide) (by rw [q_56]; decide) (by rw [q_56]; decide) (by decide) ?_
    exact l_law_56 E hfl hX hbl hbA hw0 hw1 hw2 hw3 hw4 hw5 hRm hcl hK M h
  by_cases q_57 : (xs i.toNatClampNeg &&& (63 : Int32)) = 57
  · replace h := h.2.2.2.2.2.2.2.2.2.2.2.2.2.2.2.2.2.2.2.2.2.2.2.2.2.2.2.2.2.2.2.2.2.2.2.2.2.2.2.2.2.2.2.2.2.2.2.2.2.2.2.2.2.2.2.2.2.1 q_57
    refine ra_tableIn (tgt := 3105) (off := 3065) E dL_law_40 (by rw [q_57]; decide) (by rw [q_57]; decide) (by rw [q_57]; decide) (by decide) ?_
    exact l_law_57 E hfl hX hbl hbA hw0 hw1 hw2 hw3 hw4 hw5 hRm hcl hK M h
  by_cases q_58 : (xs i.toNatClampNeg &&& (63 : Int32)) = 58
  · replace h := h.2.2.2.2.2.2.2.2.2.2.2.2.2.2.2.2.2.2.2.2.2.2.2.2.2.2.2.2.2.2.2.2.2.2.2.2.2.2.2.2.2.2.2.2.2.2.2.2.2.2.2.2.2.2.2.2.2.2.1 q_58
    refine ra_tableIn (tgt := 3161) (off := 3121) E dL_law_40 (by rw [q_58]; decide) (by rw [q_58]; decide) (by rw [q_58]; decide) (by decide) ?_
    exact l_law_58 E hfl hX hbl hbA hw0 hw1 hw2 hw3 hw4 hw5 hRm hcl hK M h
  by_cases q_59 : (xs i.toNatClampNeg &&& (63 : Int32)) = 59
  · replace h := h.2.2.2.2.2.2.2.2.2.2.2.2.2.2.2.2.2.2.2.2.2.2.2.2.2.2.2.2.2.2.2.2.2.2.2.2.2.2.2.2.2.2.2.2.2.2.2.2.2.2.2.2.2.2.2.2.2.2.2.1 q_59
    refine ra_tableIn (tgt := 3174) (off := 3134) E dL_law_40 (by rw [q_59]; decide) (by rw [q_59]; decide) (by rw [q_59]; decide) (by decide) ?_
    exact l_law_59 E hfl hX hbl hbA hw0 hw1 hw2 hw3 hw4 hw5 hRm hcl hK M h
  by_cases q_60 : (xs i.toNatClampNeg &&& (63 : Int32)) = 60
  · replace h := h.2.2.2.2.2.2.2.2.2.2.2.2.2.2.2.2.2.2.2.2.2.2.2.2.2.2.2.2.2.2.2.2.2.2.2.2.2.2.2.2.2.2.2.2.2.2.2.2.2.2.2.2.2.2.2.2.2.2.2.2.1 q_60
    refine ra_tableIn (tgt := 3218) (off := 3178) E dL_law_40 (by rw [q_60]; decide) (by rw [q_60]; decide) (by rw [q_60]; decide) (by decide) ?_
    exact l_law_60 E hfl hX hbl hbA hw0 hw1 hw2 hw3 hw4 hw5 hRm hcl hK M h
  by_cases q_61 : (xs i.toNatClampNeg &&& (63 : Int32)) = 61
  · replace h := h.2.2.2.2.2.2.2.2.2.2.2.2.2.2.2.2.2.2.2.2.2.2.2.2.2.2.2.2.2.2.2.2.2.2.2.2.2.2.2.2.2.2.2.2.2.2.2.2.2.2.2.2.2.2.2.2.2.2.2.2.2.1 q_61
    refine ra_tableIn (tgt := 3229) (off := 3189) E dL_law_40 (by rw [q_61]; decide) (by rw [q_61]; decide) (by rw [q_61]; decide) (by decide) ?_
    exact l_law_61 E hfl hX hbl hbA hw0 hw1 hw2 hw3 hw4 hw5 hRm hcl hK M h
  replace h := h.2.2.2.2.2.2.2.2.2.2.2.2.2.2.2.2.2.2.2.2.2.2.2.2.2.2.2.2.2.2.2.2.2.2.2.2.2.2.2.2.2.2.2.2.2.2.2.2.2.2.2.2.2.2.2.2.2.2.2.2.2.2 q_0 q_1 q_2 q_3 q_4 q_5 q_6 q_7 q_8 q_9 q_10 q_11 q_12 q_13 q_14 q_15 q_16 q_17 q_18 q_19 q_20 q_21 q_22 q_23 q_24 q_25 q_26 q_27 q_28 q_29 q_30 q_31 q_32 q_33 q_34 q_35 q_36 q_37 q_38 q_39 q_40 q_41 q_42 q_43 q_44 q_45 q_46 q_47 q_48 q_49 q_50 q_51 q_52 q_53 q_54 q_55 q_56 q_57 q_58 q_59 q_60 q_61
  refine ra_tableOut (tgt := 3273) E dL_law_40 (by have := lk_ne q_0 (by decide : (0 : Int32).toInt = 0); have := lk_ne q_1 (by decide : (1 : Int32).toInt = 1); have := lk_ne q_2 (by decide : (2 : Int32).toInt = 2); have := lk_ne q_3 (by decide : (3 : Int32).toInt = 3); have := lk_ne q_4 (by decide : (4 : Int32).toInt = 4); have := lk_ne q_5 (by decide : (5 : Int32).toInt = 5); have := lk_ne q_6 (by decide : (6 : Int32).toInt = 6); have := lk_ne q_7 (by decide : (7 : Int32).toInt = 7); have := lk_ne q_8 (by decide : (8 : Int32).toInt = 8); have := lk_ne q_9 (by decide : (9 : Int32).toInt = 9); have := lk_ne q_10 (by decide : (10 : Int32).toInt = 10); have := lk_ne q_11 (by decide : (11 : Int32).toInt = 11); have := lk_ne q_12 (by decide : (12 : Int32).toInt = 12); have := lk_ne q_13 (by decide : (13 : Int32).toInt = 13); have := lk_ne q_14 (by decide : (14 : Int32).toInt = 14); have := lk_ne q_15 (by decide : (15 : Int32).toInt = 15); have := lk_ne q_16 (by decide : (16 : Int32).toInt = 16); have := lk_ne q_17 (by decide : (17 : Int32).toInt = 17); have := lk_ne q_18 (by decide : (18 : Int32).toInt = 18); have := lk_ne q_19 (by decide : (19 : Int32).toInt = 19); have := lk_ne q_20 (by decide : (20 : Int32).toInt = 20); have := lk_ne q_21 (by decide : (21 : Int32).toInt = 21); have := lk_ne q_22 (by decide : (22 : Int32).toInt = 22); have := lk_ne q_23 (by decide : (23 : Int32).toInt = 23); have := lk_ne q_24 (by decide : (24 : Int32).toInt = 24); have := lk_ne q_25 (by decide : (25 : Int32).toInt = 25); have := lk_ne q_26 (by decide : (26 : Int32).toInt = 26); have := lk_ne q_27 (by decide : (27 : Int32).toInt = 27); have := lk_ne q_28 (by decide : (28 : Int32).toInt = 28); have := lk_ne q_29 (by decide : (29 : Int32).toInt = 29); have := lk_ne q_30 (by decide : (30 : Int32).toInt = 30); have := lk_ne q_31 (by decide : (31 : Int32).toInt = 31); have := lk_ne q_32 (by decide : (32 : Int32).toInt = 32); have := lk_ne q_33 (by decide : (33 : Int32).toInt = 33); have := lk_ne q_34 (by decide : (34 : Int32).toInt = 34); have := lk_ne q_35 (by decide : (35 : Int32).toInt = 35); have := lk_ne q_36 (by decide : (36 : Int32).toInt = 36); have := lk_ne q_37 (by decide : (37 : Int32).toInt = 37); have := lk_ne q_38 (by decide : (38 : Int32).toInt = 38); have := lk_ne q_39 (by decide : (39 : Int32).toInt = 39); have := lk_ne q_40 (by decide : (40 : Int32).toInt = 40); have := lk_ne q_41 (by decide : (41 : Int32).toInt = 41); have := lk_ne q_42 (by decide : (42 : Int32).toInt = 42); have := lk_ne q_43 (by decide : (43 : Int32).toInt = 43); have := lk_ne q_44 (by decide : (44 : Int32).toInt = 44); have := lk_ne q_45 (by decide : (45 : Int32).toInt = 45); have := lk_ne q_46 (by decide : (46 : Int32).toInt = 46); have := lk_ne q_47 (by decide : (47 : Int32).toInt = 47); have := lk_ne q_48 (by decide : (48 : Int32).toInt = 48); have := lk_ne q_49 (by decide : (49 : Int32).toInt = 49); have := lk_ne q_50 (by decide : (50 : Int32).toInt = 50); have := lk_ne q_51 (by decide : (51 : Int32).toInt = 51); have := lk_ne q_52 (by decide : (52 : Int32).toInt = 52); have := lk_ne q_53 (by decide : (53 : Int32).toInt = 53); have := lk_ne q_54 (by decide : (54 : Int32).toInt = 54); have := lk_ne q_55 (by decide : (55 : Int32).toInt = 55); have := lk_ne q_56 (by decide : (56 : Int32).toInt = 56); have := lk_ne q_57 (by decide : (57 : Int32).toInt = 57); have := lk_ne q_58 (by decide : (58 : Int32).toInt = 58); have := lk_ne q_59 (by decide : (59 : Int32).toInt = 59); have := lk_ne q_60 (by decide : (60 : Int32).toInt = 60); have := lk_ne q_61 (by decide : (61 : Int32).toInt = 61); omega) (by decide) ?_
  exact ra_widen (k := cells + 16) (n := slots + 96) (by omega) (by omega) (hK _ h)
