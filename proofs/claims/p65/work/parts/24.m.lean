def f_L_act_L223 (p1 : Int32) (K : Int32 → TM → Prop) (x3 : Int32) (x5 : Int32) (x6 : Int32) (M : TM) : Prop := ((¬ x6 = (30 : Int32) → f_L_most x3 (4 : Int32) M (fun r17 M16 => f_L_most (x3 >>> ((3 : Int32) &&& 31)) (6 : Int32) M16 (fun r19 M18 => f_L_most (x3 >>> ((4 : Int32) &&& 31)) (60 : Int32) M18 (fun r21 M20 => f_X12_makeOrder x5 ((1 : Int32) + r17) ((1 : Int32) + r19) ((1 : Int32) + r21) M20 (fun r23 M22 => ((¬ r23 = x6 → K (0 : Int32) M22) ∧ (r23 = x6 → f_X12_isOpen x6 M22 (fun r26 M25 => ((r26 = 0 → K (0 : Int32) M25) ∧ (¬ r26 = 0 → f_X12_deadline x6 M25 (fun r30 M29 => f_X12_minute M29 (fun r32 M31 => ((¬ r30 = ((r32 + ((1 : Int32) + r21)) - (1 : Int32)) → K (0 : Int32) M31) ∧ (r30 = ((r32 + ((1 : Int32) + r21)) - (1 : Int32)) → f_X12_price x6 M31 (fun r35 M34 => ((¬ r35 = (((1 : Int32) + r17) * ((3 : Int32) + ((1 : Int32) + r19))) → K (0 : Int32) M34) ∧ (r35 = (((1 : Int32) + r17) * ((3 : Int32) + ((1 : Int32) + r19))) → f_X12_pullsLeft x6 M34 (fun r38 M37 => ((¬ r38 = ((1 : Int32) + r19) → K (0 : Int32) M37) ∧ (r38 = ((1 : Int32) + r19) → K (1 : Int32) M37)))))))))))))))))))) ∧ (x6 = (30 : Int32) → f_X12_orderCount M (fun r41 M40 => ((¬ r41 = (30 : Int32) → K (0 : Int32) M40) ∧ (r41 = (30 : Int32) → K (1 : Int32) M40)))))
set_option maxRecDepth 100000 in
set_option maxHeartbeats 4000000 in
theorem l_L_act_L223 {p : Program} {l : Launch} {e : Env} {s : State} {m : MethodId} {args : Array Value} {below : List Frame} {meth : Method} {c : Code} {D : va_G} {tc : Nat → ClassId} {ad : Nat → Nat} (p1 : Int32) {K : Int32 → TM → Prop} (E : Ev p s m args meth c D tc ad RL cL_act 20) (hr : meth.sig.returnType = (some .boolean)) : ∀ (x3 : Int32) (x5 : Int32) (x6 : Int32) (M : TM) , f_L_act_L223 p1 K x3 x5 x6 M → Wa p l e (rmD 5) s m args below meth c 0 0 (MQ below (va_Qi (fun r M' => (r = 0 ∨ r = 1) ∧ K r M') (EndW D tc ad) (A0 ad s.heap.size)) args s 0 0 (A0 ad s.heap.size)) D tc ad 20 M 223 [(0, .ref (ad 0)), (3, .int x3), (5, .int x5), (6, .int x6)] [] := by
  intro x3 x5 x6 M  h
  unfold f_L_act_L223 at h
  refine ra_iload E dL_act_223 3 rfl ?_
  refine ra_bipush E dL_act_225 kb_30 ?_
  refine ra_icmp_ne (tgt := 245) E dL_act_227 (by decide) (fun q15 => ?_) (fun q15 => ?_)
  · replace h := h.1 q15
    refine ra_iconst E dL_act_245 ki_1 ?_
    refine ra_iload_n E dL_act_246 rfl 1 rfl ?_
    refine ra_iconst E dL_act_247 ki_4 ?_
    refine ra_callIS (rest := [_]) E (c_L_most _ _ _ _ h) (Nat.le_refl _) ct_L_most ml_L_154 (by decide) rfl rfl (Nat.le_of_ble_eq_true rfl) ⟨Nat.le_of_ble_eq_true rfl, Nat.le_of_ble_eq_true rfl⟩ ⟨Nat.zero_le _, Nat.zero_le _⟩ dL_act_248 (fun r17 M16 h => ?_)
    refine ra_iadd E dL_act_251 ?_
    refine ra_istore (L' := [(7, _), (0, _), (3, _), (5, _), (6, _)]) E dL_act_252 (by decide) rfl ?_
    refine ra_iconst E dL_act_254 ki_1 ?_
    refine ra_iload_n E dL_act_255 rfl 2 rfl ?_
    refine ra_iconst E dL_act_256 ki_3 ?_
    refine ra_ishr E dL_act_257 ?_
    refine ra_bipush E dL_act_258 kb_6 ?_
    refine ra_callIS (rest := [_]) E (c_L_most _ _ _ _ h) (Nat.le_refl _) ct_L_most ml_L_154 (by decide) rfl rfl (Nat.le_of_ble_eq_true rfl) ⟨Nat.le_of_ble_eq_true rfl, Nat.le_of_ble_eq_true rfl⟩ ⟨Nat.zero_le _, Nat.zero_le _⟩ dL_act_260 (fun r19 M18 h => ?_)
    refine ra_iadd E dL_act_263 ?_
    refine ra_istore (L' := [(8, _), (7, _), (0, _), (3, _), (5, _), (6, _)]) E dL_act_264 (by decide) rfl ?_
    refine ra_iconst E dL_act_266 ki_1 ?_
    refine ra_iload_n E dL_act_267 rfl 3 rfl ?_
    refine ra_iconst E dL_act_268 ki_4 ?_
    refine ra_ishr E dL_act_269 ?_
    refine ra_bipush E dL_act_270 kb_60 ?_
    refine ra_callIS (rest := [_]) E (c_L_most _ _ _ _ h) (Nat.le_refl _) ct_L_most ml_L_154 (by decide) rfl rfl (Nat.le_of_ble_eq_true rfl) ⟨Nat.le_of_ble_eq_true rfl, Nat.le_of_ble_eq_true rfl⟩ ⟨Nat.zero_le _, Nat.zero_le _⟩ dL_act_272 (fun r21 M20 h => ?_)
    refine ra_iadd E dL_act_275 ?_
    refine ra_istore (L' := [(9, _), (8, _), (7, _), (0, _), (3, _), (5, _), (6, _)]) E dL_act_276 (by decide) rfl ?_
    refine ra_aload_n E dL_act_278 rfl 3 rfl ?_
    refine ra_iload E dL_act_279 5 rfl ?_
    refine ra_iload E dL_act_281 2 rfl ?_
    refine ra_iload E dL_act_283 1 rfl ?_
    refine ra_iload E dL_act_285 0 rfl ?_
    refine ra_callIV (rest := []) E (c_X12_makeOrder _ _ _ _ _ _ h) (lq_X12 _) cv_X12_makeOrder ml_L_160 (by decide) (lm (by decide)) (fun R => ⟨_, cel_0 tc ad R⟩) rfl rfl rfl (Nat.le_of_ble_eq_true rfl) ⟨Nat.le_of_ble_eq_true rfl, Nat.le_of_ble_eq_true rfl⟩ ⟨Nat.zero_le _, Nat.zero_le _⟩ dL_act_287 (fun r23 M22 h => ?_)
    refine ra_iload E dL_act_290 6 rfl ?_
    refine ra_icmp_ne (tgt := 353) E dL_act_292 (by decide) (fun q24 => ?_) (fun q24 => ?_)
    · replace h := h.1 q24
      refine ra_iconst E dL_act_353 ki_0 ?_
      exact ra_zret E hr rfl dL_act_354 ⟨Or.inl rfl, h⟩
    · replace h := h.2 q24
      refine ra_aload_n E dL_act_295 rfl 3 rfl ?_
      refine ra_iload E dL_act_296 6 rfl ?_
      refine ra_callIV (rest := []) E (c_X12_isOpen _ _ _ h) (lq_X12 _) cv_X12_isOpen ml_L_83 (by decide) (lm (by decide)) (fun R => ⟨_, cel_0 tc ad R⟩) rfl rfl rfl (Nat.le_of_ble_eq_true rfl) ⟨Nat.le_of_ble_eq_true rfl, Nat.le_of_ble_eq_true rfl⟩ ⟨Nat.zero_le _, Nat.zero_le _⟩ dL_act_298 (fun r26 M25 h => ?_)
      obtain ⟨b27, h⟩ := h
      refine ra_if_eq (tgt := 353) E dL_act_301 (by decide) (fun q28 => ?_) (fun q28 => ?_)
      · replace h := h.1 q28
        refine ra_iconst E dL_act_353 ki_0 ?_
        exact ra_zret E hr rfl dL_act_354 ⟨Or.inl rfl, h⟩
      · replace h := h.2 q28
        refine ra_aload_n E dL_act_304 rfl 3 rfl ?_
        refine ra_iload E dL_act_305 6 rfl ?_
        refine ra_callIV (rest := []) E (c_X12_deadline _ _ _ h) (lq_X12 _) cv_X12_deadline ml_L_80 (by decide) (lm (by decide)) (fun R => ⟨_, cel_0 tc ad R⟩) rfl rfl rfl (Nat.le_of_ble_eq_true rfl) ⟨Nat.le_of_ble_eq_true rfl, Nat.le_of_ble_eq_true rfl⟩ ⟨Nat.zero_le _, Nat.zero_le _⟩ dL_act_307 (fun r30 M29 h => ?_)
        refine ra_aload_n E dL_act_310 rfl 3 rfl ?_
        refine ra_callIV (rest := [_]) E (c_X12_minute _ _ h) (lq_X12 _) cv_X12_minute ml_L_39 (by decide) (lm (by decide)) (fun R => ⟨_, cel_0 tc ad R⟩) rfl rfl rfl (Nat.le_of_ble_eq_true rfl) ⟨Nat.le_of_ble_eq_true rfl, Nat.le_of_ble_eq_true rfl⟩ ⟨Nat.zero_le _, Nat.zero_le _⟩ dL_act_311 (fun r32 M31 h => ?_)
        refine ra_iload E dL_act_314 0 rfl ?_
        refine ra_iadd E dL_act_316 ?_
        refine ra_iconst E dL_act_317 ki_1 ?_
        refine ra_isub E dL_act_318 ?_
        refine ra_icmp_ne (tgt := 353) E dL_act_319 (by decide) (fun q33 => ?_) (fun q33 => ?_)
        · replace h := h.1 q33
          refine ra_iconst E dL_act_353 ki_0 ?_
          exact ra_zret E hr rfl dL_act_354 ⟨Or.inl rfl, h⟩
        · replace h := h.2 q33
          refine ra_aload_n E dL_act_322 rfl 3 rfl ?_
          refine ra_iload E dL_act_323 6 rfl ?_
          refine ra_callIV (rest := []) E (c_X12_price _ _ _ h) (lq_X12 _) cv_X12_price ml_L_164 (by decide) (lm (by decide)) (fun R => ⟨_, cel_0 tc ad R⟩) rfl rfl rfl (Nat.le_of_ble_eq_true rfl) ⟨Nat.le_of_ble_eq_true rfl, Nat.le_of_ble_eq_true rfl⟩ ⟨Nat.zero_le _, Nat.zero_le _⟩ dL_act_325 (fun r35 M34 h => ?_)
          refine ra_iload E dL_act_328 2 rfl ?_
          refine ra_iconst E dL_act_330 ki_3 ?_
          refine ra_iload E dL_act_331 1 rfl ?_
          refine ra_iadd E dL_act_333 ?_
          refine ra_imul E dL_act_334 ?_
          refine ra_icmp_ne (tgt := 353) E dL_act_335 (by decide) (fun q36 => ?_) (fun q36 => ?_)
          · replace h := h.1 q36
            refine ra_iconst E dL_act_353 ki_0 ?_
            exact ra_zret E hr rfl dL_act_354 ⟨Or.inl rfl, h⟩
          · replace h := h.2 q36
            refine ra_aload_n E dL_act_338 rfl 3 rfl ?_
            refine ra_iload E dL_act_339 6 rfl ?_
            refine ra_callIV (rest := []) E (c_X12_pullsLeft _ _ _ h) (lq_X12 _) cv_X12_pullsLeft ml_L_74 (by decide) (lm (by decide)) (fun R => ⟨_, cel_0 tc ad R⟩) rfl rfl rfl (Nat.le_of_ble_eq_true rfl) ⟨Nat.le_of_ble_eq_true rfl, Nat.le_of_ble_eq_true rfl⟩ ⟨Nat.zero_le _, Nat.zero_le _⟩ dL_act_341 (fun r38 M37 h => ?_)
            refine ra_iload E dL_act_344 1 rfl ?_
            refine ra_icmp_ne (tgt := 353) E dL_act_346 (by decide) (fun q39 => ?_) (fun q39 => ?_)
            · replace h := h.1 q39
              refine ra_iconst E dL_act_353 ki_0 ?_
              exact ra_zret E hr rfl dL_act_354 ⟨Or.inl rfl, h⟩
            · replace h := h.2 q39
              refine ra_iconst E dL_act_349 ki_1 ?_
              refine ra_goto (tgt := 354) E dL_act_350 (by decide) ?_
              exact ra_zret E hr rfl dL_act_354 ⟨Or.inr rfl, h⟩
  · replace h := h.2 q15
    refine ra_aload_n E dL_act_230 rfl 0 rfl ?_
    refine ra_callIV (rest := []) E (c_X12_orderCount _ _ h) (lq_X12 _) cv_X12_orderCount ml_L_33 (by decide) (lm (by decide)) (fun R => ⟨_, cel_0 tc ad R⟩) rfl rfl rfl (Nat.le_of_ble_eq_true rfl) ⟨Nat.le_of_ble_eq_true rfl, Nat.le_of_ble_eq_true rfl⟩ ⟨Nat.zero_le _, Nat.zero_le _⟩ dL_act_231 (fun r41 M40 h => ?_)
    refine ra_bipush E dL_act_234 kb_30 ?_
    refine ra_icmp_ne (tgt := 243) E dL_act_236 (by decide) (fun q42 => ?_) (fun q42 => ?_)
    · replace h := h.1 q42
      refine ra_iconst E dL_act_243 ki_0 ?_
      exact ra_zret E hr rfl dL_act_244 ⟨Or.inl rfl, h⟩
    · replace h := h.2 q42
      refine ra_iconst E dL_act_239 ki_1 ?_
      refine ra_goto (tgt := 244) E dL_act_240 (by decide) ?_
      exact ra_zret E hr rfl dL_act_244 ⟨Or.inr rfl, h⟩
def f_L_act_L1121 (p1 : Int32) (K : Int32 → TM → Prop) (x10 : Int32) (M : TM) : Prop := f_L_pairs M (fun r94 M93 => ((¬ r94 = x10 → K (0 : Int32) M93) ∧ (r94 = x10 → K (1 : Int32) M93)))
set_option maxRecDepth 100000 in
set_option maxHeartbeats 4000000 in
theorem l_L_act_L1121 {p : Program} {l : Launch} {e : Env} {s : State} {m : MethodId} {args : Array Value} {below : List Frame} {meth : Method} {c : Code} {D : va_G} {tc : Nat → ClassId} {ad : Nat → Nat} (p1 : Int32) {K : Int32 → TM → Prop} (E : Ev p s m args meth c D tc ad RL cL_act 20) (hr : meth.sig.returnType = (some .boolean)) : ∀ (x10 : Int32) (M : TM) , f_L_act_L1121 p1 K x10 M → Wa p l e (rmD 5) s m args below meth c 0 0 (MQ below (va_Qi (fun r M' => (r = 0 ∨ r = 1) ∧ K r M') (EndW D tc ad) (A0 ad s.heap.size)) args s 0 0 (A0 ad s.heap.size)) D tc ad 20 M 1121 [(0, .ref (ad 0)), (10, .int x10)] [] := by
  intro x10 M  h
  unfold f_L_act_L1121 at h
  refine ra_aload_n E dL_act_1121 rfl 0 rfl ?_
  refine ra_callIS (rest := []) E (c_L_pairs _ _ h) (Nat.le_refl _) ct_L_pairs ml_L_176 (by decide) rfl rfl (Nat.le_of_ble_eq_true rfl) ⟨Nat.le_of_ble_eq_true rfl, Nat.le_of_ble_eq_true rfl⟩ ⟨Nat.zero_le _, Nat.zero_le _⟩ dL_act_1122 (fun r94 M93 h => ?_)
  refine ra_iload E dL_act_1125 1 rfl ?_
  refine ra_icmp_ne (tgt := 1134) E dL_act_1127 (by decide) (fun q95 => ?_) (fun q95 => ?_)
  · replace h := h.1 q95
    refine ra_iconst E dL_act_1134 ki_0 ?_
    exact ra_zret E hr rfl dL_act_1135 ⟨Or.inl rfl, h⟩
  · replace h := h.2 q95
    refine ra_iconst E dL_act_1130 ki_1 ?_
    refine ra_goto (tgt := 1135) E dL_act_1131 (by decide) ?_
    exact ra_zret E hr rfl dL_act_1135 ⟨Or.inr rfl, h⟩
def f_L_act_L1104 (p1 : Int32) (K : Int32 → TM → Prop) (x7 : Int32) (x10 : Int32) (x14 : Int32) (z0 : Int32) (z1 : Int32) (M : TM) : Prop := ((¬ z1 = z0 → K (0 : Int32) M) ∧ (z1 = z0 → ((x14 = 0 → f_L_act_L1121 p1 K x10 M) ∧ (¬ x14 = 0 → f_X12_willBeEaten x7 M (fun r97 M96 => ((r97 = 0 → K (0 : Int32) M96) ∧ (¬ r97 = 0 → f_L_act_L1121 p1 K x10 M96)))))))
set_option maxRecDepth 100000 in
set_option maxHeartbeats 4000000 in
theorem l_L_act_L1104 {p : Program} {l : Launch} {e : Env} {s : State} {m : MethodId} {args : Array Value} {below : List Frame} {meth : Method} {c : Code} {D : va_G} {tc : Nat → ClassId} {ad : Nat → Nat} (p1 : Int32) {K : Int32 → TM → Prop} (E : Ev p s m args meth c D tc ad RL cL_act 20) (hr : meth.sig.returnType = (some .boolean)) : ∀ (x7 : Int32) (x10 : Int32) (x14 : Int32) (z0 : Int32) (z1 : Int32) (M : TM) , f_L_act_L1104 p1 K x7 x10 x14 z0 z1 M → Wa p l e (rmD 5) s m args below meth c 0 0 (MQ below (va_Qi (fun r M' => (r = 0 ∨ r = 1) ∧ K r M') (EndW D tc ad) (A0 ad s.heap.size)) args s 0 0 (A0 ad s.heap.size)) D tc ad 20 M 1104 [(0, .ref (ad 0)), (7, .int x7), (10, .int x10), (14, .int x14)] [.int z0, .int z1] := by
  intro x7 x10 x14 z0 z1 M  h
  unfold f_L_act_L1104 at h
  refine ra_icmp_ne (tgt := 1134) E dL_act_1104 (by decide) (fun q91 => ?_) (fun q91 => ?_)
  · replace h := h.1 q91
    refine ra_iconst E dL_act_1134 ki_0 ?_
    exact ra_zret E hr rfl dL_act_1135 ⟨Or.inl rfl, h⟩
  · replace h := h.2 q91
    refine ra_iload E dL_act_1107 3 rfl ?_
    refine ra_if_eq (tgt := 1121) E dL_act_1109 (by decide) (fun q92 => ?_) (fun q92 => ?_)
    · replace h := h.1 q92
      exact ra_sub (L' := [(0, _), (10, _)]) [0, 2] rfl (l_L_act_L1121 p1 E hr _ _ h)
    · replace h := h.2 q92
      refine ra_aload_n E dL_act_1112 rfl 0 rfl ?_
      refine ra_iload E dL_act_1113 1 rfl ?_
      refine ra_callIV (rest := []) E (c_X12_willBeEaten _ _ _ h) (lq_X12 _) cv_X12_willBeEaten ml_L_132 (by decide) (lm (by decide)) (fun R => ⟨_, cel_0 tc ad R⟩) rfl rfl rfl (Nat.le_of_ble_eq_true rfl) ⟨Nat.le_of_ble_eq_true rfl, Nat.le_of_ble_eq_true rfl⟩ ⟨Nat.zero_le _, Nat.zero_le _⟩ dL_act_1115 (fun r97 M96 h => ?_)
      obtain ⟨b98, h⟩ := h
      refine ra_if_eq (tgt := 1134) E dL_act_1118 (by decide) (fun q99 => ?_) (fun q99 => ?_)
      · replace h := h.1 q99
        refine ra_iconst E dL_act_1134 ki_0 ?_
        exact ra_zret E hr rfl dL_act_1135 ⟨Or.inl rfl, h⟩
      · replace h := h.2 q99
        exact ra_sub (L' := [(0, _), (10, _)]) [0, 2] rfl (l_L_act_L1121 p1 E hr _ _ h)
def f_L_act_L1103 (p1 : Int32) (K : Int32 → TM → Prop) (x7 : Int32) (x10 : Int32) (x14 : Int32) (z0 : Int32) (M : TM) : Prop := f_L_act_L1104 p1 K x7 x10 x14 (0 : Int32) z0 M
set_option maxRecDepth 100000 in
set_option maxHeartbeats 4000000 in
theorem l_L_act_L1103 {p : Program} {l : Launch} {e : Env} {s : State} {m : MethodId} {args : Array Value} {below : List Frame} {meth : Method} {c : Code} {D : va_G} {tc : Nat → ClassId} {ad : Nat → Nat} (p1 : Int32) {K : Int32 → TM → Prop} (E : Ev p s m args meth c D tc ad RL cL_act 20) (hr : meth.sig.returnType = (some .boolean)) : ∀ (x7 : Int32) (x10 : Int32) (x14 : Int32) (z0 : Int32) (M : TM) , f_L_act_L1103 p1 K x7 x10 x14 z0 M → Wa p l e (rmD 5) s m args below meth c 0 0 (MQ below (va_Qi (fun r M' => (r = 0 ∨ r = 1) ∧ K r M') (EndW D tc ad) (A0 ad s.heap.size)) args s 0 0 (A0 ad s.heap.size)) D tc ad 20 M 1103 [(0, .ref (ad 0)), (7, .int x7), (10, .int x10), (14, .int x14)] [.int z0] := by
  intro x7 x10 x14 z0 M  h
  unfold f_L_act_L1103 at h
  refine ra_iconst E dL_act_1103 ki_0 ?_
  exact ra_sub (L' := [(0, _), (7, _), (10, _), (14, _)]) [0, 1, 2, 3] rfl (l_L_act_L1104 p1 E hr _ _ _ _ _ _ h)
def f_L_act_L1087 (p1 : Int32) (K : Int32 → TM → Prop) (x7 : Int32) (x10 : Int32) (x11 : Int32) (x13 : Int32) (x14 : Int32) (z0 : Int32) (M : TM) : Prop := ((x13 < 0 → f_L_act_L1103 p1 K x7 x10 x14 z0 M) ∧ (¬ x13 < 0 → ((x11 < x13 → f_L_act_L1103 p1 K x7 x10 x14 z0 M) ∧ (¬ x11 < x13 → f_L_act_L1104 p1 K x7 x10 x14 (1 : Int32) z0 M))))
set_option maxRecDepth 100000 in
set_option maxHeartbeats 4000000 in
theorem l_L_act_L1087 {p : Program} {l : Launch} {e : Env} {s : State} {m : MethodId} {args : Array Value} {below : List Frame} {meth : Method} {c : Code} {D : va_G} {tc : Nat → ClassId} {ad : Nat → Nat} (p1 : Int32) {K : Int32 → TM → Prop} (E : Ev p s m args meth c D tc ad RL cL_act 20) (hr : meth.sig.returnType = (some .boolean)) : ∀ (x7 : Int32) (x10 : Int32) (x11 : Int32) (x13 : Int32) (x14 : Int32) (z0 : Int32) (M : TM) , f_L_act_L1087 p1 K x7 x10 x11 x13 x14 z0 M → Wa p l e (rmD 5) s m args below meth c 0 0 (MQ below (va_Qi (fun r M' => (r = 0 ∨ r = 1) ∧ K r M') (EndW D tc ad) (A0 ad s.heap.size)) args s 0 0 (A0 ad s.heap.size)) D tc ad 20 M 1087 [(0, .ref (ad 0)), (7, .int x7), (10, .int x10), (11, .int x11), (13, .int x13), (14, .int x14)] [.int z0] := by
  intro x7 x10 x11 x13 x14 z0 M  h
  unfold f_L_act_L1087 at h
  refine ra_iload E dL_act_1087 4 rfl ?_
  refine ra_if_lt (tgt := 1103) E dL_act_1089 (by decide) (fun q90 => ?_) (fun q90 => ?_)
  · replace h := h.1 q90
    exact ra_sub (L' := [(0, _), (7, _), (10, _), (14, _)]) [0, 1, 2, 5] rfl (l_L_act_L1103 p1 E hr _ _ _ _ _ h)
  · replace h := h.2 q90
    refine ra_iload E dL_act_1092 4 rfl ?_
    refine ra_iload E dL_act_1094 3 rfl ?_
    refine ra_icmp_gt (tgt := 1103) E dL_act_1096 (by decide) (fun q100 => ?_) (fun q100 => ?_)
    · replace h := h.1 q100
      exact ra_sub (L' := [(0, _), (7, _), (10, _), (14, _)]) [0, 1, 2, 5] rfl (l_L_act_L1103 p1 E hr _ _ _ _ _ h)
    · replace h := h.2 q100
      refine ra_iconst E dL_act_1099 ki_1 ?_
      refine ra_goto (tgt := 1104) E dL_act_1100 (by decide) ?_
      exact ra_sub (L' := [(0, _), (7, _), (10, _), (14, _)]) [0, 1, 2, 5] rfl (l_L_act_L1104 p1 E hr _ _ _ _ _ _ h)
def f_L_act_L1023 (p1 : Int32) (K : Int32 → TM → Prop) (k1000 : Int32 → Int32 → Int32 → Int32 → Int32 → Int32 → Int32 → Int32 → Int32 → Int32 → Int32 → Int32 → Int32 → TM → Prop) (x4 : Int32) (x6 : Int32) (x7 : Int32) (x10 : Int32) (x11 : Int32) (x12 : Int32) (x13 : Int32) (x14 : Int32) (x16 : Int32) (x17 : Int32) (x18 : Int32) (x19 : Int32) (z0 : Int32) (z1 : Int32) (M : TM) : Prop := k1000 x4 x6 x7 x10 x11 x12 x13 x14 (z1 + z0) x16 x17 x18 (x19 + 1) M
set_option maxRecDepth 100000 in
set_option maxHeartbeats 4000000 in
theorem l_L_act_L1023 {p : Program} {l : Launch} {e : Env} {s : State} {m : MethodId} {args : Array Value} {below : List Frame} {meth : Method} {c : Code} {D : va_G} {tc : Nat → ClassId} {ad : Nat → Nat} (p1 : Int32) {K : Int32 → TM → Prop} {k1000 : Int32 → Int32 → Int32 → Int32 → Int32 → Int32 → Int32 → Int32 → Int32 → Int32 → Int32 → Int32 → Int32 → TM → Prop} (E : Ev p s m args meth c D tc ad RL cL_act 20) (hr : meth.sig.returnType = (some .boolean)) (hk1000 : ∀ (x4 : Int32) (x6 : Int32) (x7 : Int32) (x10 : Int32) (x11 : Int32) (x12 : Int32) (x13 : Int32) (x14 : Int32) (x15 : Int32) (x16 : Int32) (x17 : Int32) (x18 : Int32) (x19 : Int32) (M : TM) , k1000 x4 x6 x7 x10 x11 x12 x13 x14 x15 x16 x17 x18 x19 M → Wa p l e (rmD 5) s m args below meth c 0 0 (MQ below (va_Qi (fun r M' => (r = 0 ∨ r = 1) ∧ K r M') (EndW D tc ad) (A0 ad s.heap.size)) args s 0 0 (A0 ad s.heap.size)) D tc ad 20 M 1000 [(0, .ref (ad 0)), (4, .int x4), (6, .int x6), (7, .int x7), (10, .int x10), (11, .int x11), (12, .int x12), (13, .int x13), (14, .int x14), (15, .int x15), (16, .int x16), (17, .int x17), (18, .int x18), (19, .int x19)] []) : ∀ (x4 : Int32) (x6 : Int32) (x7 : Int32) (x10 : Int32) (x11 : Int32) (x12 : Int32) (x13 : Int32) (x14 : Int32) (x16 : Int32) (x17 : Int32) (x18 : Int32) (x19 : Int32) (z0 : Int32) (z1 : Int32) (M : TM) , f_L_act_L1023 p1 K k1000 x4 x6 x7 x10 x11 x12 x13 x14 x16 x17 x18 x19 z0 z1 M → Wa p l e (rmD 5) s m args below meth c 0 0 (MQ below (va_Qi (fun r M' => (r = 0 ∨ r = 1) ∧ K r M') (EndW D tc ad) (A0 ad s.heap.size)) args s 0 0 (A0 ad s.heap.size)) D tc ad 20 M 1023 [(0, .ref (ad 0)), (4, .int x4), (6, .int x6), (7, .int x7), (10, .int x10), (11, .int x11), (12, .int x12), (13, .int x13), (14, .int x14), (16, .int x16), (17, .int x17), (18, .int x18), (19, .int x19)] [.int z0, .int z1] := by
  intro x4 x6 x7 x10 x11 x12 x13 x14 x16 x17 x18 x19 z0 z1 M  h
  unfold f_L_act_L1023 at h
  refine ra_iadd E dL_act_1023 ?_
  refine ra_istore (L' := [(15, _), (0, _), (4, _), (6, _), (7, _), (10, _), (11, _), (12, _), (13, _), (14, _), (16, _), (17, _), (18, _), (19, _)]) E dL_act_1024 (by decide) rfl ?_
  refine ra_iinc1 (L' := [(19, _), (15, _), (0, _), (4, _), (6, _), (7, _), (10, _), (11, _), (12, _), (13, _), (14, _), (16, _), (17, _), (18, _)]) E dL_act_1026 13 rfl (by decide) rfl ?_
  refine ra_goto (tgt := 1000) E dL_act_1029 (by decide) ?_
  exact ra_sub (L' := [(0, _), (4, _), (6, _), (7, _), (10, _), (11, _), (12, _), (13, _), (14, _), (15, _), (16, _), (17, _), (18, _), (19, _)]) [2, 3, 4, 5, 6, 7, 8, 9, 10, 1, 11, 12, 13, 0] rfl (hk1000 _ _ _ _ _ _ _ _ _ _ _ _ _ _ h)
def f_L_act_L1000 (p1 : Int32) (K : Int32 → TM → Prop) : Nat → Int32 → Int32 → Int32 → Int32 → Int32 → Int32 → Int32 → Int32 → Int32 → Int32 → Int32 → Int32 → Int32 → TM → Prop
  | 0, _, _, _, _, _, _, _, _, _, _, _, _, _, _ => False
  | n + 1, x4, x6, x7, x10, x11, x12, x13, x14, x15, x16, x17, x18, x19, M => ((x6 ≤ x19 → ((¬ x18 = x15 → K (0 : Int32) M) ∧ (x18 = x15 → f_X12_coins M (fun r79 M78 => ((¬ r79 = x12 → K (0 : Int32) M78) ∧ (r79 = x12 → f_X12_minute M78 (fun r82 M81 => ((¬ r82 = (x16 + x11) → K (0 : Int32) M81) ∧ (r82 = (x16 + x11) → f_X12_targetOf x4 M81 (fun r85 M84 => ((¬ r85 = x17 → K (0 : Int32) M84) ∧ (r85 = x17 → f_X12_placeOf x4 M84 (fun r88 M87 => ((¬ r88 = x17 → f_L_act_L1087 p1 K x7 x10 x11 x13 x14 (0 : Int32) M87) ∧ (r88 = x17 → f_L_act_L1087 p1 K x7 x10 x11 x13 x14 (1 : Int32) M87))))))))))))))) ∧ (¬ x6 ≤ x19 → f_X12_isEaten x19 M (fun r102 M101 => ((r102 = 0 → f_L_act_L1023 p1 K (f_L_act_L1000 p1 K n) x4 x6 x7 x10 x11 x12 x13 x14 x16 x17 x18 x19 (0 : Int32) x15 M101) ∧ (¬ r102 = 0 → f_L_act_L1023 p1 K (f_L_act_L1000 p1 K n) x4 x6 x7 x10 x11 x12 x13 x14 x16 x17 x18 x19 (1 : Int32) x15 M101)))))
set_option maxRecDepth 100000 in
set_option maxHeartbeats 4000000 in
theorem l_L_act_L1000 {p : Program} {l : Launch} {e : Env} {s : State} {m : MethodId} {args : Array Value} {below : List Frame} {meth : Method} {c : Code} {D : va_G} {tc : Nat → ClassId} {ad : Nat → Nat} (p1 : Int32) {K : Int32 → TM → Prop} (E : Ev p s m args meth c D tc ad RL cL_act 20) (hr : meth.sig.returnType = (some .boolean)) : ∀ (n : Nat) (x4 : Int32) (x6 : Int32) (x7 : Int32) (x10 : Int32) (x11 : Int32) (x12 : Int32) (x13 : Int32) (x14 : Int32) (x15 : Int32) (x16 : Int32) (x17 : Int32) (x18 : Int32) (x19 : Int32) (M : TM) , f_L_act_L1000 p1 K n x4 x6 x7 x10 x11 x12 x13 x14 x15 x16 x17 x18 x19 M → Wa p l e (rmD 5) s m args below meth c 0 0 (MQ below (va_Qi (fun r M' => (r = 0 ∨ r = 1) ∧ K r M') (EndW D tc ad) (A0 ad s.heap.size)) args s 0 0 (A0 ad s.heap.size)) D tc ad 20 M 1000 [(0, .ref (ad 0)), (4, .int x4), (6, .int x6), (7, .int x7), (10, .int x10), (11, .int x11), (12, .int x12), (13, .int x13), (14, .int x14), (15, .int x15), (16, .int x16), (17, .int x17), (18, .int x18), (19, .int x19)] [] := by
  intro n
  induction n with
  | zero => intro x4 x6 x7 x10 x11 x12 x13 x14 x15 x16 x17 x18 x19 M  h; exact h.elim
  | succ n ih =>
    intro x4 x6 x7 x10 x11 x12 x13 x14 x15 x16 x17 x18 x19 M  h
    unfold f_L_act_L1000 at h
    refine ra_iload E dL_act_1000 13 rfl ?_
    refine ra_iload E dL_act_1002 2 rfl ?_
    refine ra_icmp_ge (tgt := 1032) E dL_act_1004 (by decide) (fun q76 => ?_) (fun q76 => ?_)
    · replace h := h.1 q76
      refine ra_iload E dL_act_1032 12 rfl ?_
      refine ra_iload E dL_act_1034 9 rfl ?_
      refine ra_icmp_ne (tgt := 1134) E dL_act_1036 (by decide) (fun q77 => ?_) (fun q77 => ?_)
      · replace h := h.1 q77
        refine ra_iconst E dL_act_1134 ki_0 ?_
        exact ra_zret E hr rfl dL_act_1135 ⟨Or.inl rfl, h⟩
      · replace h := h.2 q77
        refine ra_aload_n E dL_act_1039 rfl 0 rfl ?_
        refine ra_callIV (rest := []) E (c_X12_coins _ _ h) (lq_X12 _) cv_X12_coins ml_L_42 (by decide) (lm (by decide)) (fun R => ⟨_, cel_0 tc ad R⟩) rfl rfl rfl (Nat.le_of_ble_eq_true rfl) ⟨Nat.le_of_ble_eq_true rfl, Nat.le_of_ble_eq_true rfl⟩ ⟨Nat.zero_le _, Nat.zero_le _⟩ dL_act_1040 (fun r79 M78 h => ?_)
        refine ra_iload E dL_act_1043 6 rfl ?_
        refine ra_icmp_ne (tgt := 1134) E dL_act_1045 (by decide) (fun q80 => ?_) (fun q80 => ?_)
        · replace h := h.1 q80
          refine ra_iconst E dL_act_1134 ki_0 ?_
          exact ra_zret E hr rfl dL_act_1135 ⟨Or.inl rfl, h⟩
        · replace h := h.2 q80
          refine ra_aload_n E dL_act_1048 rfl 0 rfl ?_
          refine ra_callIV (rest := []) E (c_X12_minute _ _ h) (lq_X12 _) cv_X12_minute ml_L_39 (by decide) (lm (by decide)) (fun R => ⟨_, cel_0 tc ad R⟩) rfl rfl rfl (Nat.le_of_ble_eq_true rfl) ⟨Nat.le_of_ble_eq_true rfl, Nat.le_of_ble_eq_true rfl⟩ ⟨Nat.zero_le _, Nat.zero_le _⟩ dL_act_1049 (fun r82 M81 h => ?_)
          refine ra_iload E dL_act_1052 10 rfl ?_
          refine ra_iload E dL_act_1054 5 rfl ?_
          refine ra_iadd E dL_act_1056 ?_
          refine ra_icmp_ne (tgt := 1134) E dL_act_1057 (by decide) (fun q83 => ?_) (fun q83 => ?_)
          · replace h := h.1 q83
            refine ra_iconst E dL_act_1134 ki_0 ?_
            exact ra_zret E hr rfl dL_act_1135 ⟨Or.inl rfl, h⟩
          · replace h := h.2 q83
            refine ra_aload_n E dL_act_1060 rfl 0 rfl ?_
            refine ra_iload E dL_act_1061 1 rfl ?_
            refine ra_callIV (rest := []) E (c_X12_targetOf _ _ _ h) (lq_X12 _) cv_X12_targetOf ml_L_55 (by decide) (lm (by decide)) (fun R => ⟨_, cel_0 tc ad R⟩) rfl rfl rfl (Nat.le_of_ble_eq_true rfl) ⟨Nat.le_of_ble_eq_true rfl, Nat.le_of_ble_eq_true rfl⟩ ⟨Nat.zero_le _, Nat.zero_le _⟩ dL_act_1063 (fun r85 M84 h => ?_)
            refine ra_iload E dL_act_1066 11 rfl ?_
            refine ra_icmp_ne (tgt := 1134) E dL_act_1068 (by decide) (fun q86 => ?_) (fun q86 => ?_)
            · replace h := h.1 q86
              refine ra_iconst E dL_act_1134 ki_0 ?_
              exact ra_zret E hr rfl dL_act_1135 ⟨Or.inl rfl, h⟩
            · replace h := h.2 q86
              refine ra_aload_n E dL_act_1071 rfl 0 rfl ?_
              refine ra_iload E dL_act_1072 1 rfl ?_
              refine ra_callIV (rest := []) E (c_X12_placeOf _ _ _ h) (lq_X12 _) cv_X12_placeOf ml_L_51 (by decide) (lm (by decide)) (fun R => ⟨_, cel_0 tc ad R⟩) rfl rfl rfl (Nat.le_of_ble_eq_true rfl) ⟨Nat.le_of_ble_eq_true rfl, Nat.le_of_ble_eq_true rfl⟩ ⟨Nat.zero_le _, Nat.zero_le _⟩ dL_act_1074 (fun r88 M87 h => ?_)
              refine ra_iload E dL_act_1077 11 rfl ?_
              refine ra_icmp_ne (tgt := 1086) E dL_act_1079 (by decide) (fun q89 => ?_) (fun q89 => ?_)
              · replace h := h.1 q89
                refine ra_iconst E dL_act_1086 ki_0 ?_
                exact ra_sub (L' := [(0, _), (7, _), (10, _), (11, _), (13, _), (14, _)]) [0, 3, 4, 5, 7, 8] rfl (l_L_act_L1087 p1 E hr _ _ _ _ _ _ _ h)
              · replace h := h.2 q89
                refine ra_iconst E dL_act_1082 ki_1 ?_
                refine ra_goto (tgt := 1087) E dL_act_1083 (by decide) ?_
                exact ra_sub (L' := [(0, _), (7, _), (10, _), (11, _), (13, _), (14, _)]) [0, 3, 4, 5, 7, 8] rfl (l_L_act_L1087 p1 E hr _ _ _ _ _ _ _ h)
    · replace h := h.2 q76
      refine ra_iload E dL_act_1007 9 rfl ?_
      refine ra_aload_n E dL_act_1009 rfl 0 rfl ?_
      refine ra_iload E dL_act_1010 13 rfl ?_
      refine ra_callIV (rest := [_]) E (c_X12_isEaten _ _ _ h) (lq_X12 _) cv_X12_isEaten ml_L_90 (by decide) (lm (by decide)) (fun R => ⟨_, cel_0 tc ad R⟩) rfl rfl rfl (Nat.le_of_ble_eq_true rfl) ⟨Nat.le_of_ble_eq_true rfl, Nat.le_of_ble_eq_true rfl⟩ ⟨Nat.zero_le _, Nat.zero_le _⟩ dL_act_1012 (fun r102 M101 h => ?_)
      obtain ⟨b103, h⟩ := h
      refine ra_if_eq (tgt := 1022) E dL_act_1015 (by decide) (fun q104 => ?_) (fun q104 => ?_)
      · replace h := h.1 q104
        refine ra_iconst E dL_act_1022 ki_0 ?_
        exact ra_sub (L' := [(0, _), (4, _), (6, _), (7, _), (10, _), (11, _), (12, _), (13, _), (14, _), (16, _), (17, _), (18, _), (19, _)]) [0, 1, 2, 3, 4, 5, 6, 7, 8, 10, 11, 12, 13] rfl (l_L_act_L1023 p1 E hr ih _ _ _ _ _ _ _ _ _ _ _ _ _ _ _ h)
      · replace h := h.2 q104
        refine ra_iconst E dL_act_1018 ki_1 ?_
        refine ra_goto (tgt := 1023) E dL_act_1019 (by decide) ?_
        exact ra_sub (L' := [(0, _), (4, _), (6, _), (7, _), (10, _), (11, _), (12, _), (13, _), (14, _), (16, _), (17, _), (18, _), (19, _)]) [0, 1, 2, 3, 4, 5, 6, 7, 8, 10, 11, 12, 13] rfl (l_L_act_L1023 p1 E hr ih _ _ _ _ _ _ _ _ _ _ _ _ _ _ _ h)
def f_L_act_L966 (p1 : Int32) (K : Int32 → TM → Prop) (k943 : Int32 → Int32 → Int32 → Int32 → Int32 → Int32 → Int32 → Int32 → Int32 → Int32 → TM → Prop) (x4 : Int32) (x6 : Int32) (x7 : Int32) (x10 : Int32) (x11 : Int32) (x12 : Int32) (x13 : Int32) (x14 : Int32) (x16 : Int32) (z0 : Int32) (z1 : Int32) (M : TM) : Prop := k943 x4 x6 x7 x10 x11 x12 x13 x14 (z1 - z0) (x16 + 1) M
set_option maxRecDepth 100000 in
set_option maxHeartbeats 4000000 in
theorem l_L_act_L966 {p : Program} {l : Launch} {e : Env} {s : State} {m : MethodId} {args : Array Value} {below : List Frame} {meth : Method} {c : Code} {D : va_G} {tc : Nat → ClassId} {ad : Nat → Nat} (p1 : Int32) {K : Int32 → TM → Prop} {k943 : Int32 → Int32 → Int32 → Int32 → Int32 → Int32 → Int32 → Int32 → Int32 → Int32 → TM → Prop} (E : Ev p s m args meth c D tc ad RL cL_act 20) (hr : meth.sig.returnType = (some .boolean)) (hk943 : ∀ (x4 : Int32) (x6 : Int32) (x7 : Int32) (x10 : Int32) (x11 : Int32) (x12 : Int32) (x13 : Int32) (x14 : Int32) (x15 : Int32) (x16 : Int32) (M : TM) , k943 x4 x6 x7 x10 x11 x12 x13 x14 x15 x16 M → Wa p l e (rmD 5) s m args below meth c 0 0 (MQ below (va_Qi (fun r M' => (r = 0 ∨ r = 1) ∧ K r M') (EndW D tc ad) (A0 ad s.heap.size)) args s 0 0 (A0 ad s.heap.size)) D tc ad 20 M 943 [(0, .ref (ad 0)), (4, .int x4), (6, .int x6), (7, .int x7), (10, .int x10), (11, .int x11), (12, .int x12), (13, .int x13), (14, .int x14), (15, .int x15), (16, .int x16)] []) : ∀ (x4 : Int32) (x6 : Int32) (x7 : Int32) (x10 : Int32) (x11 : Int32) (x12 : Int32) (x13 : Int32) (x14 : Int32) (x16 : Int32) (z0 : Int32) (z1 : Int32) (M : TM) , f_L_act_L966 p1 K k943 x4 x6 x7 x10 x11 x12 x13 x14 x16 z0 z1 M → Wa p l e (rmD 5) s m args below meth c 0 0 (MQ below (va_Qi (fun r M' => (r = 0 ∨ r = 1) ∧ K r M') (EndW D tc ad) (A0 ad s.heap.size)) args s 0 0 (A0 ad s.heap.size)) D tc ad 20 M 966 [(0, .ref (ad 0)), (4, .int x4), (6, .int x6), (7, .int x7), (10, .int x10), (11, .int x11), (12, .int x12), (13, .int x13), (14, .int x14), (16, .int x16)] [.int z0, .int z1] := by
  intro x4 x6 x7 x10 x11 x12 x13 x14 x16 z0 z1 M  h
  unfold f_L_act_L966 at h
  refine ra_isub E dL_act_966 ?_
  refine ra_istore (L' := [(15, _), (0, _), (4, _), (6, _), (7, _), (10, _), (11, _), (12, _), (13, _), (14, _), (16, _)]) E dL_act_967 (by decide) rfl ?_
  refine ra_iinc1 (L' := [(16, _), (15, _), (0, _), (4, _), (6, _), (7, _), (10, _), (11, _), (12, _), (13, _), (14, _)]) E dL_act_969 10 rfl (by decide) rfl ?_
  refine ra_goto (tgt := 943) E dL_act_972 (by decide) ?_
  exact ra_sub (L' := [(0, _), (4, _), (6, _), (7, _), (10, _), (11, _), (12, _), (13, _), (14, _), (15, _), (16, _)]) [2, 3, 4, 5, 6, 7, 8, 9, 10, 1, 0] rfl (hk943 _ _ _ _ _ _ _ _ _ _ _ h)
def f_L_act_L943 (p1 : Int32) (K : Int32 → TM → Prop) : Nat → Int32 → Int32 → Int32 → Int32 → Int32 → Int32 → Int32 → Int32 → Int32 → Int32 → TM → Prop
  | 0, _, _, _, _, _, _, _, _, _, _, _ => False
  | n + 1, x4, x6, x7, x10, x11, x12, x13, x14, x15, x16, M => ((x6 ≤ x16 → f_X12_minute M (fun r71 M70 => f_X12_targetOf x4 M70 (fun r73 M72 => f_X12_passMinutes x11 M72 (fun r75 M74 => ∃ n1000, f_L_act_L1000 p1 K n1000 x4 x6 x7 x10 x11 x12 x13 x14 x15 r71 r73 r75 (0 : Int32) M74)))) ∧ (¬ x6 ≤ x16 → f_X12_isEaten x16 M (fun r107 M106 => ((r107 = 0 → f_L_act_L966 p1 K (f_L_act_L943 p1 K n) x4 x6 x7 x10 x11 x12 x13 x14 x16 (0 : Int32) x15 M106) ∧ (¬ r107 = 0 → f_L_act_L966 p1 K (f_L_act_L943 p1 K n) x4 x6 x7 x10 x11 x12 x13 x14 x16 (1 : Int32) x15 M106)))))
set_option maxRecDepth 100000 in
set_option maxHeartbeats 4000000 in
theorem l_L_act_L943 {p : Program} {l : Launch} {e : Env} {s : State} {m : MethodId} {args : Array Value} {below : List Frame} {meth : Method} {c : Code} {D : va_G} {tc : Nat → ClassId} {ad : Nat → Nat} (p1 : Int32) {K : Int32 → TM → Prop} (E : Ev p s m args meth c D tc ad RL cL_act 20) (hr : meth.sig.returnType = (some .boolean)) : ∀ (n : Nat) (x4 : Int32) (x6 : Int32) (x7 : Int32) (x10 : Int32) (x11 : Int32) (x12 : Int32) (x13 : Int32) (x14 : Int32) (x15 : Int32) (x16 : Int32) (M : TM) , f_L_act_L943 p1 K n x4 x6 x7 x10 x11 x12 x13 x14 x15 x16 M → Wa p l e (rmD 5) s m args below meth c 0 0 (MQ below (va_Qi (fun r M' => (r = 0 ∨ r = 1) ∧ K r M') (EndW D tc ad) (A0 ad s.heap.size)) args s 0 0 (A0 ad s.heap.size)) D tc ad 20 M 943 [(0, .ref (ad 0)), (4, .int x4), (6, .int x6), (7, .int x7), (10, .int x10), (11, .int x11), (12, .int x12), (13, .int x13), (14, .int x14), (15, .int x15), (16, .int x16)] [] := by
  intro n
  induction n with
  | zero => intro x4 x6 x7 x10 x11 x12 x13 x14 x15 x16 M  h; exact h.elim
  | succ n ih =>
    intro x4 x6 x7 x10 x11 x12 x13 x14 x15 x16 M  h
    unfold f_L_act_L943 at h
    refine ra_iload E dL_act_943 10 rfl ?_
    refine ra_iload E dL_act_945 2 rfl ?_
    refine ra_icmp_ge (tgt := 975) E dL_act_947 (by decide) (fun q69 => ?_) (fun q69 => ?_)
    · replace h := h.1 q69
      refine ra_aload_n E dL_act_975 rfl 0 rfl ?_
      refine ra_callIV (rest := []) E (c_X12_minute _ _ h) (lq_X12 _) cv_X12_minute ml_L_39 (by decide) (lm (by decide)) (fun R => ⟨_, cel_0 tc ad R⟩) rfl rfl rfl (Nat.le_of_ble_eq_true rfl) ⟨Nat.le_of_ble_eq_true rfl, Nat.le_of_ble_eq_true rfl⟩ ⟨Nat.zero_le _, Nat.zero_le _⟩ dL_act_976 (fun r71 M70 h => ?_)
      refine ra_istore (L' := [(16, _), (0, _), (4, _), (6, _), (7, _), (10, _), (11, _), (12, _), (13, _), (14, _), (15, _)]) E dL_act_979 (by decide) rfl ?_
      refine ra_aload_n E dL_act_981 rfl 1 rfl ?_
      refine ra_iload E dL_act_982 2 rfl ?_
      refine ra_callIV (rest := []) E (c_X12_targetOf _ _ _ h) (lq_X12 _) cv_X12_targetOf ml_L_55 (by decide) (lm (by decide)) (fun R => ⟨_, cel_0 tc ad R⟩) rfl rfl rfl (Nat.le_of_ble_eq_true rfl) ⟨Nat.le_of_ble_eq_true rfl, Nat.le_of_ble_eq_true rfl⟩ ⟨Nat.zero_le _, Nat.zero_le _⟩ dL_act_984 (fun r73 M72 h => ?_)
      refine ra_istore (L' := [(17, _), (16, _), (0, _), (4, _), (6, _), (7, _), (10, _), (11, _), (12, _), (13, _), (14, _), (15, _)]) E dL_act_987 (by decide) rfl ?_
      refine ra_aload_n E dL_act_989 rfl 2 rfl ?_
      refine ra_iload E dL_act_990 7 rfl ?_
      refine ra_callIV (rest := []) E (c_X12_passMinutes _ _ _ h) (lq_X12 _) cv_X12_passMinutes ml_L_186 (by decide) (lm (by decide)) (fun R => ⟨_, cel_0 tc ad R⟩) rfl rfl rfl (Nat.le_of_ble_eq_true rfl) ⟨Nat.le_of_ble_eq_true rfl, Nat.le_of_ble_eq_true rfl⟩ ⟨Nat.zero_le _, Nat.zero_le _⟩ dL_act_992 (fun r75 M74 h => ?_)
      refine ra_istore (L' := [(18, _), (17, _), (16, _), (0, _), (4, _), (6, _), (7, _), (10, _), (11, _), (12, _), (13, _), (14, _), (15, _)]) E dL_act_995 (by decide) rfl ?_
      refine ra_iconst E dL_act_997 ki_0 ?_
      refine ra_istore (L' := [(19, _), (18, _), (17, _), (16, _), (0, _), (4, _), (6, _), (7, _), (10, _), (11, _), (12, _), (13, _), (14, _), (15, _)]) E dL_act_998 (by decide) rfl ?_
      obtain ⟨n105, h⟩ := h
      exact ra_sub (L' := [(0, _), (4, _), (6, _), (7, _), (10, _), (11, _), (12, _), (13, _), (14, _), (15, _), (16, _), (17, _), (18, _), (19, _)]) [4, 5, 6, 7, 8, 9, 10, 11, 12, 13, 3, 2, 1, 0] rfl (l_L_act_L1000 p1 E hr n105 _ _ _ _ _ _ _ _ _ _ _ _ _ _ h)
    · replace h := h.2 q69
      refine ra_iload E dL_act_950 9 rfl ?_
      refine ra_aload_n E dL_act_952 rfl 0 rfl ?_
      refine ra_iload E dL_act_953 10 rfl ?_
      refine ra_callIV (rest := [_]) E (c_X12_isEaten _ _ _ h) (lq_X12 _) cv_X12_isEaten ml_L_90 (by decide) (lm (by decide)) (fun R => ⟨_, cel_0 tc ad R⟩) rfl rfl rfl (Nat.le_of_ble_eq_true rfl) ⟨Nat.le_of_ble_eq_true rfl, Nat.le_of_ble_eq_true rfl⟩ ⟨Nat.zero_le _, Nat.zero_le _⟩ dL_act_955 (fun r107 M106 h => ?_)
      obtain ⟨b108, h⟩ := h
      refine ra_if_eq (tgt := 965) E dL_act_958 (by decide) (fun q109 => ?_) (fun q109 => ?_)
      · replace h := h.1 q109
        refine ra_iconst E dL_act_965 ki_0 ?_
        exact ra_sub (L' := [(0, _), (4, _), (6, _), (7, _), (10, _), (11, _), (12, _), (13, _), (14, _), (16, _)]) [0, 1, 2, 3, 4, 5, 6, 7, 8, 10] rfl (l_L_act_L966 p1 E hr ih _ _ _ _ _ _ _ _ _ _ _ _ h)
      · replace h := h.2 q109
        refine ra_iconst E dL_act_961 ki_1 ?_
        refine ra_goto (tgt := 966) E dL_act_962 (by decide) ?_
        exact ra_sub (L' := [(0, _), (4, _), (6, _), (7, _), (10, _), (11, _), (12, _), (13, _), (14, _), (16, _)]) [0, 1, 2, 3, 4, 5, 6, 7, 8, 10] rfl (l_L_act_L966 p1 E hr ih _ _ _ _ _ _ _ _ _ _ _ _ h)
def f_L_act_L907 (p1 : Int32) (K : Int32 → TM → Prop) (x4 : Int32) (x6 : Int32) (x7 : Int32) (x10 : Int32) (z0 : Int32) (z1 : Int32) (z2 : Int32) (M : TM) : Prop := f_L_most z1 z0 M (fun r61 M60 => f_X12_coinsAfter (z2 + r61) M60 (fun r63 M62 => f_X12_minutesToTarget x4 M62 (fun r65 M64 => f_X12_willBeEaten x7 M64 (fun r67 M66 => ∃ n943, f_L_act_L943 p1 K n943 x4 x6 x7 x10 (z2 + r61) r63 r65 r67 (0 : Int32) (0 : Int32) M66))))
set_option maxRecDepth 100000 in
set_option maxHeartbeats 4000000 in
theorem l_L_act_L907 {p : Program} {l : Launch} {e : Env} {s : State} {m : MethodId} {args : Array Value} {below : List Frame} {meth : Method} {c : Code} {D : va_G} {tc : Nat → ClassId} {ad : Nat → Nat} (p1 : Int32) {K : Int32 → TM → Prop} (E : Ev p s m args meth c D tc ad RL cL_act 20) (hr : meth.sig.returnType = (some .boolean)) : ∀ (x4 : Int32) (x6 : Int32) (x7 : Int32) (x10 : Int32) (z0 : Int32) (z1 : Int32) (z2 : Int32) (M : TM) , f_L_act_L907 p1 K x4 x6 x7 x10 z0 z1 z2 M → Wa p l e (rmD 5) s m args below meth c 0 0 (MQ below (va_Qi (fun r M' => (r = 0 ∨ r = 1) ∧ K r M') (EndW D tc ad) (A0 ad s.heap.size)) args s 0 0 (A0 ad s.heap.size)) D tc ad 20 M 907 [(0, .ref (ad 0)), (4, .int x4), (6, .int x6), (7, .int x7), (10, .int x10)] [.int z0, .int z1, .int z2] := by
  intro x4 x6 x7 x10 z0 z1 z2 M  h
  unfold f_L_act_L907 at h
  refine ra_callIS (rest := [_]) E (c_L_most _ _ _ _ h) (Nat.le_refl _) ct_L_most ml_L_154 (by decide) rfl rfl (Nat.le_of_ble_eq_true rfl) ⟨Nat.le_of_ble_eq_true rfl, Nat.le_of_ble_eq_true rfl⟩ ⟨Nat.zero_le _, Nat.zero_le _⟩ dL_act_907 (fun r61 M60 h => ?_)
  refine ra_iadd E dL_act_910 ?_
  refine ra_istore (L' := [(11, _), (0, _), (4, _), (6, _), (7, _), (10, _)]) E dL_act_911 (by decide) rfl ?_
  refine ra_aload_n E dL_act_913 rfl 1 rfl ?_
  refine ra_iload E dL_act_914 0 rfl ?_
  refine ra_callIV (rest := []) E (c_X12_coinsAfter _ _ _ h) (lq_X12 _) cv_X12_coinsAfter ml_L_145 (by decide) (lm (by decide)) (fun R => ⟨_, cel_0 tc ad R⟩) rfl rfl rfl (Nat.le_of_ble_eq_true rfl) ⟨Nat.le_of_ble_eq_true rfl, Nat.le_of_ble_eq_true rfl⟩ ⟨Nat.zero_le _, Nat.zero_le _⟩ dL_act_916 (fun r63 M62 h => ?_)
  refine ra_istore (L' := [(12, _), (11, _), (0, _), (4, _), (6, _), (7, _), (10, _)]) E dL_act_919 (by decide) rfl ?_
  refine ra_aload_n E dL_act_921 rfl 2 rfl ?_
  refine ra_iload E dL_act_922 3 rfl ?_
  refine ra_callIV (rest := []) E (c_X12_minutesToTarget _ _ _ h) (lq_X12 _) cv_X12_minutesToTarget ml_L_123 (by decide) (lm (by decide)) (fun R => ⟨_, cel_0 tc ad R⟩) rfl rfl rfl (Nat.le_of_ble_eq_true rfl) ⟨Nat.le_of_ble_eq_true rfl, Nat.le_of_ble_eq_true rfl⟩ ⟨Nat.zero_le _, Nat.zero_le _⟩ dL_act_924 (fun r65 M64 h => ?_)
  refine ra_istore (L' := [(13, _), (12, _), (11, _), (0, _), (4, _), (6, _), (7, _), (10, _)]) E dL_act_927 (by decide) rfl ?_
  refine ra_aload_n E dL_act_929 rfl 3 rfl ?_
  refine ra_iload E dL_act_930 6 rfl ?_
  refine ra_callIV (rest := []) E (c_X12_willBeEaten _ _ _ h) (lq_X12 _) cv_X12_willBeEaten ml_L_132 (by decide) (lm (by decide)) (fun R => ⟨_, cel_0 tc ad R⟩) rfl rfl rfl (Nat.le_of_ble_eq_true rfl) ⟨Nat.le_of_ble_eq_true rfl, Nat.le_of_ble_eq_true rfl⟩ ⟨Nat.zero_le _, Nat.zero_le _⟩ dL_act_932 (fun r67 M66 h => ?_)
  obtain ⟨b68, h⟩ := h
  refine ra_istore (L' := [(14, _), (13, _), (12, _), (11, _), (0, _), (4, _), (6, _), (7, _), (10, _)]) E dL_act_935 (by decide) rfl ?_
  refine ra_iconst E dL_act_937 ki_0 ?_
  refine ra_istore (L' := [(15, _), (14, _), (13, _), (12, _), (11, _), (0, _), (4, _), (6, _), (7, _), (10, _)]) E dL_act_938 (by decide) rfl ?_
  refine ra_iconst E dL_act_940 ki_0 ?_
  refine ra_istore (L' := [(16, _), (15, _), (14, _), (13, _), (12, _), (11, _), (0, _), (4, _), (6, _), (7, _), (10, _)]) E dL_act_941 (by decide) rfl ?_
  obtain ⟨n110, h⟩ := h
  exact ra_sub (L' := [(0, _), (4, _), (6, _), (7, _), (10, _), (11, _), (12, _), (13, _), (14, _), (15, _), (16, _)]) [6, 7, 8, 9, 10, 5, 4, 3, 2, 1, 0] rfl (l_L_act_L943 p1 E hr n110 _ _ _ _ _ _ _ _ _ _ _ h)
def f_L_act_L638 (p1 : Int32) (K : Int32 → TM → Prop) (x2 : Int32) (x3 : Int32) (x4 : Int32) (x5 : Int32) (x6 : Int32) (x7 : Int32) (x8 : Int32) (z0 : Int32) (M : TM) : Prop := (((15 : Int32) ≤ x2 → f_L_pairs M (fun r54 M53 => (((17 : Int32) ≤ x2 → ((¬ x2 = (17 : Int32) → f_L_most (x3 >>> ((3 : Int32) &&& 31)) (4 : Int32) M53 (fun r58 M57 => ((¬ r58 = 0 → f_L_act_L907 p1 K x4 x6 x7 r54 (7 : Int32) x3 (1 : Int32) M57) ∧ (r58 = 0 → f_L_act_L907 p1 K x4 x6 x7 r54 (60 : Int32) x3 (1 : Int32) M57)))) ∧ (x2 = (17 : Int32) → f_X12_cleanPairs x4 M53 (fun r112 M111 => f_X12_dirtyPairs x4 M111 (fun r114 M113 => ((z0 = 0 → K (1 : Int32) M113) ∧ (¬ z0 = 0 → f_X12_wash x4 M113 (fun r117 M116 => ((¬ r117 = (r112 + r114) → K (0 : Int32) M116) ∧ (r117 = (r112 + r114) → f_X12_dirtyPairs x4 M116 (fun r120 M119 => ((¬ r120 = 0 → K (0 : Int32) M119) ∧ (r120 = 0 → f_L_pairs M119 (fun r123 M122 => ((¬ r123 = r54 → K (0 : Int32) M122) ∧ (r123 = r54 → K (1 : Int32) M122)))))))))))))))) ∧ (¬ (17 : Int32) ≤ x2 → ((x8 = 0 → f_X12_placeOf x4 M53 (fun r127 M126 => f_X12_usedPairs r127 M126 (fun r129 M128 => f_X12_dirtyPairs x4 M128 (fun r131 M130 => f_X12_collect x4 M130 (fun r133 M132 => ((¬ r133 = r129 → K (0 : Int32) M132) ∧ (r133 = r129 → f_X12_dirtyPairs x4 M132 (fun r136 M135 => ((¬ r136 = (r131 + r129) → K (0 : Int32) M135) ∧ (r136 = (r131 + r129) → f_X12_placeOf x4 M135 (fun r139 M138 => f_X12_usedPairs r139 M138 (fun r141 M140 => ((¬ r141 = 0 → K (0 : Int32) M140) ∧ (r141 = 0 → f_L_pairs M140 (fun r144 M143 => ((¬ r144 = r54 → K (0 : Int32) M143) ∧ (r144 = r54 → K (1 : Int32) M143))))))))))))))))) ∧ (¬ x8 = 0 → f_X12_sailObstacle x4 x5 M53 (fun r147 M146 => ((¬ r147 = (1 : Int32) → K (0 : Int32) M146) ∧ (r147 = (1 : Int32) → K (1 : Int32) M146))))))))) ∧ (¬ (15 : Int32) ≤ x2 → f_X12_flour x4 M (fun r150 M149 => f_X12_coins M149 (fun r152 M151 => f_L_most x3 (20 : Int32) M151 (fun r154 M153 => ((z0 = 0 → K (1 : Int32) M153) ∧ (¬ z0 = 0 → (((99 : Int32) < (r150 + ((1 : Int32) + r154)) → K (1 : Int32) M153) ∧ (¬ (99 : Int32) < (r150 + ((1 : Int32) + r154)) → f_X12_buyFlour x4 ((1 : Int32) + r154) M153 (fun r158 M157 => ((¬ r158 = (r150 + ((1 : Int32) + r154)) → K (0 : Int32) M157) ∧ (r158 = (r150 + ((1 : Int32) + r154)) → f_X12_coins M157 (fun r161 M160 => ((¬ r161 = (r152 - ((1 : Int32) + r154)) → K (0 : Int32) M160) ∧ (r161 = (r152 - ((1 : Int32) + r154)) → K (1 : Int32) M160)))))))))))))))
set_option maxRecDepth 100000 in
set_option maxHeartbeats 4000000 in
theorem l_L_act_L638 {p : Program} {l : Launch} {e : Env} {s : State} {m : MethodId} {args : Array Value} {below : List Frame} {meth : Method} {c : Code} {D : va_G} {tc : Nat → ClassId} {ad : Nat → Nat} (p1 : Int32) {K : Int32 → TM → Prop} (E : Ev p s m args meth c D tc ad RL cL_act 20) (hr : meth.sig.returnType = (some .boolean)) : ∀ (x2 : Int32) (x3 : Int32) (x4 : Int32) (x5 : Int32) (x6 : Int32) (x7 : Int32) (x8 : Int32) (z0 : Int32) (M : TM) , f_L_act_L638 p1 K x2 x3 x4 x5 x6 x7 x8 z0 M → Wa p l e (rmD 5) s m args below meth c 0 0 (MQ below (va_Qi (fun r M' => (r = 0 ∨ r = 1) ∧ K r M') (EndW D tc ad) (A0 ad s.heap.size)) args s 0 0 (A0 ad s.heap.size)) D tc ad 20 M 638 [(0, .ref (ad 0)), (2, .int x2), (3, .int x3), (4, .int x4), (5, .int x5), (6, .int x6), (7, .int x7), (8, .int x8)] [.int z0] := by
  intro x2 x3 x4 x5 x6 x7 x8 z0 M  h
  unfold f_L_act_L638 at h
  refine ra_istore (L' := [(9, _), (0, _), (2, _), (3, _), (4, _), (5, _), (6, _), (7, _), (8, _)]) E dL_act_638 (by decide) rfl ?_
  refine ra_iload_n E dL_act_640 rfl 2 rfl ?_
  refine ra_bipush E dL_act_641 kb_15 ?_
  refine ra_icmp_ge (tgt := 719) E dL_act_643 (by decide) (fun q52 => ?_) (fun q52 => ?_)
  · replace h := h.1 q52
    refine ra_aload_n E dL_act_719 rfl 1 rfl ?_
    refine ra_callIS (rest := []) E (c_L_pairs _ _ h) (Nat.le_refl _) ct_L_pairs ml_L_176 (by decide) rfl rfl (Nat.le_of_ble_eq_true rfl) ⟨Nat.le_of_ble_eq_true rfl, Nat.le_of_ble_eq_true rfl⟩ ⟨Nat.zero_le _, Nat.zero_le _⟩ dL_act_720 (fun r54 M53 h => ?_)
    refine ra_istore (L' := [(10, _), (9, _), (0, _), (2, _), (3, _), (4, _), (5, _), (6, _), (7, _), (8, _)]) E dL_act_723 (by decide) rfl ?_
    refine ra_iload_n E dL_act_725 rfl 3 rfl ?_
    refine ra_bipush E dL_act_726 kb_17 ?_
    refine ra_icmp_ge (tgt := 827) E dL_act_728 (by decide) (fun q55 => ?_) (fun q55 => ?_)
    · replace h := h.1 q55
      refine ra_iload_n E dL_act_827 rfl 3 rfl ?_
      refine ra_bipush E dL_act_828 kb_17 ?_
      refine ra_icmp_ne (tgt := 888) E dL_act_830 (by decide) (fun q56 => ?_) (fun q56 => ?_)
      · replace h := h.1 q56
        refine ra_iconst E dL_act_888 ki_1 ?_
        refine ra_iload_n E dL_act_889 rfl 4 rfl ?_
        refine ra_iload_n E dL_act_890 rfl 4 rfl ?_
        refine ra_iconst E dL_act_891 ki_3 ?_
        refine ra_ishr E dL_act_892 ?_
        refine ra_iconst E dL_act_893 ki_4 ?_
        refine ra_callIS (rest := [_, _]) E (c_L_most _ _ _ _ h) (Nat.le_refl _) ct_L_most ml_L_154 (by decide) rfl rfl (Nat.le_of_ble_eq_true rfl) ⟨Nat.le_of_ble_eq_true rfl, Nat.le_of_ble_eq_true rfl⟩ ⟨Nat.zero_le _, Nat.zero_le _⟩ dL_act_894 (fun r58 M57 h => ?_)
        refine ra_if_ne (tgt := 905) E dL_act_897 (by decide) (fun q59 => ?_) (fun q59 => ?_)
        · replace h := h.1 q59
          refine ra_bipush E dL_act_905 kb_7 ?_
          exact ra_sub (L' := [(0, _), (4, _), (6, _), (7, _), (10, _)]) [2, 5, 7, 8, 0] rfl (l_L_act_L907 p1 E hr _ _ _ _ _ _ _ _ h)
        · replace h := h.2 q59
          refine ra_bipush E dL_act_900 kb_60 ?_
          refine ra_goto (tgt := 907) E dL_act_902 (by decide) ?_
          exact ra_sub (L' := [(0, _), (4, _), (6, _), (7, _), (10, _)]) [2, 5, 7, 8, 0] rfl (l_L_act_L907 p1 E hr _ _ _ _ _ _ _ _ h)
      · replace h := h.2 q56
        refine ra_aload_n E dL_act_833 rfl 2 rfl ?_
        refine ra_iload E dL_act_834 5 rfl ?_
        refine ra_callIV (rest := []) E (c_X12_cleanPairs _ _ _ h) (lq_X12 _) cv_X12_cleanPairs ml_L_64 (by decide) (lm (by decide)) (fun R => ⟨_, cel_0 tc ad R⟩) rfl rfl rfl (Nat.le_of_ble_eq_true rfl) ⟨Nat.le_of_ble_eq_true rfl, Nat.le_of_ble_eq_true rfl⟩ ⟨Nat.zero_le _, Nat.zero_le _⟩ dL_act_836 (fun r112 M111 h => ?_)
        refine ra_aload_n E dL_act_839 rfl 2 rfl ?_
        refine ra_iload E dL_act_840 5 rfl ?_
        refine ra_callIV (rest := [_]) E (c_X12_dirtyPairs _ _ _ h) (lq_X12 _) cv_X12_dirtyPairs ml_L_67 (by decide) (lm (by decide)) (fun R => ⟨_, cel_0 tc ad R⟩) rfl rfl rfl (Nat.le_of_ble_eq_true rfl) ⟨Nat.le_of_ble_eq_true rfl, Nat.le_of_ble_eq_true rfl⟩ ⟨Nat.zero_le _, Nat.zero_le _⟩ dL_act_842 (fun r114 M113 h => ?_)
        refine ra_iadd E dL_act_845 ?_
        refine ra_istore (L' := [(11, _), (10, _), (9, _), (0, _), (2, _), (3, _), (4, _), (5, _), (6, _), (7, _), (8, _)]) E dL_act_846 (by decide) rfl ?_
        refine ra_iload E dL_act_848 2 rfl ?_
        refine ra_if_eq (tgt := 882) E dL_act_850 (by decide) (fun q115 => ?_) (fun q115 => ?_)
        · replace h := h.1 q115
          refine ra_iconst E dL_act_882 ki_1 ?_
          refine ra_goto (tgt := 887) E dL_act_883 (by decide) ?_
          exact ra_zret E hr rfl dL_act_887 ⟨Or.inr rfl, h⟩
        · replace h := h.2 q115
          refine ra_aload_n E dL_act_853 rfl 3 rfl ?_
          refine ra_iload E dL_act_854 6 rfl ?_
          refine ra_callIV (rest := []) E (c_X12_wash _ _ _ h) (lq_X12 _) cv_X12_wash ml_L_183 (by decide) (lm (by decide)) (fun R => ⟨_, cel_0 tc ad R⟩) rfl rfl rfl (Nat.le_of_ble_eq_true rfl) ⟨Nat.le_of_ble_eq_true rfl, Nat.le_of_ble_eq_true rfl⟩ ⟨Nat.zero_le _, Nat.zero_le _⟩ dL_act_856 (fun r117 M116 h => ?_)
          refine ra_iload E dL_act_859 0 rfl ?_
          refine ra_icmp_ne (tgt := 886) E dL_act_861 (by decide) (fun q118 => ?_) (fun q118 => ?_)
          · replace h := h.1 q118
            refine ra_iconst E dL_act_886 ki_0 ?_
            exact ra_zret E hr rfl dL_act_887 ⟨Or.inl rfl, h⟩
          · replace h := h.2 q118
            refine ra_aload_n E dL_act_864 rfl 3 rfl ?_
            refine ra_iload E dL_act_865 6 rfl ?_
            refine ra_callIV (rest := []) E (c_X12_dirtyPairs _ _ _ h) (lq_X12 _) cv_X12_dirtyPairs ml_L_67 (by decide) (lm (by decide)) (fun R => ⟨_, cel_0 tc ad R⟩) rfl rfl rfl (Nat.le_of_ble_eq_true rfl) ⟨Nat.le_of_ble_eq_true rfl, Nat.le_of_ble_eq_true rfl⟩ ⟨Nat.zero_le _, Nat.zero_le _⟩ dL_act_867 (fun r120 M119 h => ?_)
            refine ra_if_ne (tgt := 886) E dL_act_870 (by decide) (fun q121 => ?_) (fun q121 => ?_)
            · replace h := h.1 q121
              refine ra_iconst E dL_act_886 ki_0 ?_
              exact ra_zret E hr rfl dL_act_887 ⟨Or.inl rfl, h⟩
            · replace h := h.2 q121
              refine ra_aload_n E dL_act_873 rfl 3 rfl ?_
              refine ra_callIS (rest := []) E (c_L_pairs _ _ h) (Nat.le_refl _) ct_L_pairs ml_L_176 (by decide) rfl rfl (Nat.le_of_ble_eq_true rfl) ⟨Nat.le_of_ble_eq_true rfl, Nat.le_of_ble_eq_true rfl⟩ ⟨Nat.zero_le _, Nat.zero_le _⟩ dL_act_874 (fun r123 M122 h => ?_)
              refine ra_iload E dL_act_877 1 rfl ?_
              refine ra_icmp_ne (tgt := 886) E dL_act_879 (by decide) (fun q124 => ?_) (fun q124 => ?_)
              · replace h := h.1 q124
                refine ra_iconst E dL_act_886 ki_0 ?_
                exact ra_zret E hr rfl dL_act_887 ⟨Or.inl rfl, h⟩
              · replace h := h.2 q124
                refine ra_iconst E dL_act_882 ki_1 ?_
                refine ra_goto (tgt := 887) E dL_act_883 (by decide) ?_
                exact ra_zret E hr rfl dL_act_887 ⟨Or.inr rfl, h⟩
    · replace h := h.2 q55
      refine ra_iload E dL_act_731 9 rfl ?_
      refine ra_if_eq (tgt := 754) E dL_act_733 (by decide) (fun q125 => ?_) (fun q125 => ?_)
      · replace h := h.1 q125
        refine ra_aload_n E dL_act_754 rfl 2 rfl ?_
        refine ra_aload_n E dL_act_755 rfl 2 rfl ?_
        refine ra_iload E dL_act_756 5 rfl ?_
        refine ra_callIV (rest := [_]) E (c_X12_placeOf _ _ _ h) (lq_X12 _) cv_X12_placeOf ml_L_51 (by decide) (lm (by decide)) (fun R => ⟨_, cel_0 tc ad R⟩) rfl rfl rfl (Nat.le_of_ble_eq_true rfl) ⟨Nat.le_of_ble_eq_true rfl, Nat.le_of_ble_eq_true rfl⟩ ⟨Nat.zero_le _, Nat.zero_le _⟩ dL_act_758 (fun r127 M126 h => ?_)
        refine ra_callIV (rest := []) E (c_X12_usedPairs _ _ _ h) (lq_X12 _) cv_X12_usedPairs ml_L_93 (by decide) (lm (by decide)) (fun R => ⟨_, cel_0 tc ad R⟩) rfl rfl rfl (Nat.le_of_ble_eq_true rfl) ⟨Nat.le_of_ble_eq_true rfl, Nat.le_of_ble_eq_true rfl⟩ ⟨Nat.zero_le _, Nat.zero_le _⟩ dL_act_761 (fun r129 M128 h => ?_)
        refine ra_istore (L' := [(11, _), (10, _), (9, _), (0, _), (2, _), (3, _), (4, _), (5, _), (6, _), (7, _), (8, _)]) E dL_act_764 (by decide) rfl ?_
        refine ra_aload_n E dL_act_766 rfl 3 rfl ?_
        refine ra_iload E dL_act_767 6 rfl ?_
        refine ra_callIV (rest := []) E (c_X12_dirtyPairs _ _ _ h) (lq_X12 _) cv_X12_dirtyPairs ml_L_67 (by decide) (lm (by decide)) (fun R => ⟨_, cel_0 tc ad R⟩) rfl rfl rfl (Nat.le_of_ble_eq_true rfl) ⟨Nat.le_of_ble_eq_true rfl, Nat.le_of_ble_eq_true rfl⟩ ⟨Nat.zero_le _, Nat.zero_le _⟩ dL_act_769 (fun r131 M130 h => ?_)
        refine ra_istore (L' := [(12, _), (11, _), (10, _), (9, _), (0, _), (2, _), (3, _), (4, _), (5, _), (6, _), (7, _), (8, _)]) E dL_act_772 (by decide) rfl ?_
        refine ra_aload_n E dL_act_774 rfl 4 rfl ?_
        refine ra_iload E dL_act_775 7 rfl ?_
        refine ra_callIV (rest := []) E (c_X12_collect _ _ _ h) (lq_X12 _) cv_X12_collect ml_L_180 (by decide) (lm (by decide)) (fun R => ⟨_, cel_0 tc ad R⟩) rfl rfl rfl (Nat.le_of_ble_eq_true rfl) ⟨Nat.le_of_ble_eq_true rfl, Nat.le_of_ble_eq_true rfl⟩ ⟨Nat.zero_le _, Nat.zero_le _⟩ dL_act_777 (fun r133 M132 h => ?_)
        refine ra_iload E dL_act_780 1 rfl ?_
        refine ra_icmp_ne (tgt := 825) E dL_act_782 (by decide) (fun q134 => ?_) (fun q134 => ?_)
        · replace h := h.1 q134
          refine ra_iconst E dL_act_825 ki_0 ?_
          exact ra_zret E hr rfl dL_act_826 ⟨Or.inl rfl, h⟩
        · replace h := h.2 q134
          refine ra_aload_n E dL_act_785 rfl 4 rfl ?_
          refine ra_iload E dL_act_786 7 rfl ?_
          refine ra_callIV (rest := []) E (c_X12_dirtyPairs _ _ _ h) (lq_X12 _) cv_X12_dirtyPairs ml_L_67 (by decide) (lm (by decide)) (fun R => ⟨_, cel_0 tc ad R⟩) rfl rfl rfl (Nat.le_of_ble_eq_true rfl) ⟨Nat.le_of_ble_eq_true rfl, Nat.le_of_ble_eq_true rfl⟩ ⟨Nat.zero_le _, Nat.zero_le _⟩ dL_act_788 (fun r136 M135 h => ?_)
          refine ra_iload E dL_act_791 0 rfl ?_
          refine ra_iload E dL_act_793 1 rfl ?_
          refine ra_iadd E dL_act_795 ?_
          refine ra_icmp_ne (tgt := 825) E dL_act_796 (by decide) (fun q137 => ?_) (fun q137 => ?_)
          · replace h := h.1 q137
            refine ra_iconst E dL_act_825 ki_0 ?_
            exact ra_zret E hr rfl dL_act_826 ⟨Or.inl rfl, h⟩
          · replace h := h.2 q137
            refine ra_aload_n E dL_act_799 rfl 4 rfl ?_
            refine ra_aload_n E dL_act_800 rfl 4 rfl ?_
            refine ra_iload E dL_act_801 7 rfl ?_
            refine ra_callIV (rest := [_]) E (c_X12_placeOf _ _ _ h) (lq_X12 _) cv_X12_placeOf ml_L_51 (by decide) (lm (by decide)) (fun R => ⟨_, cel_0 tc ad R⟩) rfl rfl rfl (Nat.le_of_ble_eq_true rfl) ⟨Nat.le_of_ble_eq_true rfl, Nat.le_of_ble_eq_true rfl⟩ ⟨Nat.zero_le _, Nat.zero_le _⟩ dL_act_803 (fun r139 M138 h => ?_)
            refine ra_callIV (rest := []) E (c_X12_usedPairs _ _ _ h) (lq_X12 _) cv_X12_usedPairs ml_L_93 (by decide) (lm (by decide)) (fun R => ⟨_, cel_0 tc ad R⟩) rfl rfl rfl (Nat.le_of_ble_eq_true rfl) ⟨Nat.le_of_ble_eq_true rfl, Nat.le_of_ble_eq_true rfl⟩ ⟨Nat.zero_le _, Nat.zero_le _⟩ dL_act_806 (fun r141 M140 h => ?_)
            refine ra_if_ne (tgt := 825) E dL_act_809 (by decide) (fun q142 => ?_) (fun q142 => ?_)
            · replace h := h.1 q142
              refine ra_iconst E dL_act_825 ki_0 ?_
              exact ra_zret E hr rfl dL_act_826 ⟨Or.inl rfl, h⟩
            · replace h := h.2 q142
              refine ra_aload_n E dL_act_812 rfl 4 rfl ?_
              refine ra_callIS (rest := []) E (c_L_pairs _ _ h) (Nat.le_refl _) ct_L_pairs ml_L_176 (by decide) rfl rfl (Nat.le_of_ble_eq_true rfl) ⟨Nat.le_of_ble_eq_true rfl, Nat.le_of_ble_eq_true rfl⟩ ⟨Nat.zero_le _, Nat.zero_le _⟩ dL_act_813 (fun r144 M143 h => ?_)
              refine ra_iload E dL_act_816 2 rfl ?_
              refine ra_icmp_ne (tgt := 825) E dL_act_818 (by decide) (fun q145 => ?_) (fun q145 => ?_)
              · replace h := h.1 q145
                refine ra_iconst E dL_act_825 ki_0 ?_
                exact ra_zret E hr rfl dL_act_826 ⟨Or.inl rfl, h⟩
              · replace h := h.2 q145
                refine ra_iconst E dL_act_821 ki_1 ?_
                refine ra_goto (tgt := 826) E dL_act_822 (by decide) ?_
                exact ra_zret E hr rfl dL_act_826 ⟨Or.inr rfl, h⟩
      · replace h := h.2 q125
        refine ra_aload_n E dL_act_736 rfl 2 rfl ?_
        refine ra_iload E dL_act_737 5 rfl ?_
        refine ra_iload E dL_act_739 6 rfl ?_
        refine ra_callIV (rest := []) E (c_X12_sailObstacle _ _ _ _ h) (lq_X12 _) cv_X12_sailObstacle ml_L_126 (by decide) (lm (by decide)) (fun R => ⟨_, cel_0 tc ad R⟩) rfl rfl rfl (Nat.le_of_ble_eq_true rfl) ⟨Nat.le_of_ble_eq_true rfl, Nat.le_of_ble_eq_true rfl⟩ ⟨Nat.zero_le _, Nat.zero_le _⟩ dL_act_741 (fun r147 M146 h => ?_)
        refine ra_iconst E dL_act_744 ki_1 ?_
        refine ra_icmp_ne (tgt := 752) E dL_act_745 (by decide) (fun q148 => ?_) (fun q148 => ?_)
        · replace h := h.1 q148
          refine ra_iconst E dL_act_752 ki_0 ?_
          exact ra_zret E hr rfl dL_act_753 ⟨Or.inl rfl, h⟩
        · replace h := h.2 q148
          refine ra_iconst E dL_act_748 ki_1 ?_
          refine ra_goto (tgt := 753) E dL_act_749 (by decide) ?_
          exact ra_zret E hr rfl dL_act_753 ⟨Or.inr rfl, h⟩
  · replace h := h.2 q52
    refine ra_aload_n E dL_act_646 rfl 1 rfl ?_
    refine ra_iload E dL_act_647 4 rfl ?_
    refine ra_callIV (rest := []) E (c_X12_flour _ _ _ h) (lq_X12 _) cv_X12_flour ml_L_61 (by decide) (lm (by decide)) (fun R => ⟨_, cel_0 tc ad R⟩) rfl rfl rfl (Nat.le_of_ble_eq_true rfl) ⟨Nat.le_of_ble_eq_true rfl, Nat.le_of_ble_eq_true rfl⟩ ⟨Nat.zero_le _, Nat.zero_le _⟩ dL_act_649 (fun r150 M149 h => ?_)
    refine ra_istore (L' := [(10, _), (9, _), (0, _), (2, _), (3, _), (4, _), (5, _), (6, _), (7, _), (8, _)]) E dL_act_652 (by decide) rfl ?_
    refine ra_aload_n E dL_act_654 rfl 2 rfl ?_
    refine ra_callIV (rest := []) E (c_X12_coins _ _ h) (lq_X12 _) cv_X12_coins ml_L_42 (by decide) (lm (by decide)) (fun R => ⟨_, cel_0 tc ad R⟩) rfl rfl rfl (Nat.le_of_ble_eq_true rfl) ⟨Nat.le_of_ble_eq_true rfl, Nat.le_of_ble_eq_true rfl⟩ ⟨Nat.zero_le _, Nat.zero_le _⟩ dL_act_655 (fun r152 M151 h => ?_)
    refine ra_istore (L' := [(11, _), (10, _), (9, _), (0, _), (2, _), (3, _), (4, _), (5, _), (6, _), (7, _), (8, _)]) E dL_act_658 (by decide) rfl ?_
    refine ra_iconst E dL_act_660 ki_1 ?_
    refine ra_iload_n E dL_act_661 rfl 5 rfl ?_
    refine ra_bipush E dL_act_662 kb_20 ?_
    refine ra_callIS (rest := [_]) E (c_L_most _ _ _ _ h) (Nat.le_refl _) ct_L_most ml_L_154 (by decide) rfl rfl (Nat.le_of_ble_eq_true rfl) ⟨Nat.le_of_ble_eq_true rfl, Nat.le_of_ble_eq_true rfl⟩ ⟨Nat.zero_le _, Nat.zero_le _⟩ dL_act_664 (fun r154 M153 h => ?_)
    refine ra_iadd E dL_act_667 ?_
    refine ra_istore (L' := [(12, _), (11, _), (10, _), (9, _), (0, _), (2, _), (3, _), (4, _), (5, _), (6, _), (7, _), (8, _)]) E dL_act_668 (by decide) rfl ?_
    refine ra_iload E dL_act_670 3 rfl ?_
    refine ra_if_eq (tgt := 713) E dL_act_672 (by decide) (fun q155 => ?_) (fun q155 => ?_)
    · replace h := h.1 q155
      refine ra_iconst E dL_act_713 ki_1 ?_
      refine ra_goto (tgt := 718) E dL_act_714 (by decide) ?_
      exact ra_zret E hr rfl dL_act_718 ⟨Or.inr rfl, h⟩
    · replace h := h.2 q155
      refine ra_iload E dL_act_675 2 rfl ?_
      refine ra_iload E dL_act_677 0 rfl ?_
      refine ra_iadd E dL_act_679 ?_
      refine ra_bipush E dL_act_680 kb_99 ?_
      refine ra_icmp_gt (tgt := 713) E dL_act_682 (by decide) (fun q156 => ?_) (fun q156 => ?_)
      · replace h := h.1 q156
        refine ra_iconst E dL_act_713 ki_1 ?_
        refine ra_goto (tgt := 718) E dL_act_714 (by decide) ?_
        exact ra_zret E hr rfl dL_act_718 ⟨Or.inr rfl, h⟩
      · replace h := h.2 q156
        refine ra_aload_n E dL_act_685 rfl 4 rfl ?_
        refine ra_iload E dL_act_686 7 rfl ?_
        refine ra_iload E dL_act_688 0 rfl ?_
        refine ra_callIV (rest := []) E (c_X12_buyFlour _ _ _ _ h) (lq_X12 _) cv_X12_buyFlour ml_L_173 (by decide) (lm (by decide)) (fun R => ⟨_, cel_0 tc ad R⟩) rfl rfl rfl (Nat.le_of_ble_eq_true rfl) ⟨Nat.le_of_ble_eq_true rfl, Nat.le_of_ble_eq_true rfl⟩ ⟨Nat.zero_le _, Nat.zero_le _⟩ dL_act_690 (fun r158 M157 h => ?_)
        refine ra_iload E dL_act_693 2 rfl ?_
        refine ra_iload E dL_act_695 0 rfl ?_
        refine ra_iadd E dL_act_697 ?_
        refine ra_icmp_ne (tgt := 717) E dL_act_698 (by decide) (fun q159 => ?_) (fun q159 => ?_)
        · replace h := h.1 q159
          refine ra_iconst E dL_act_717 ki_0 ?_
          exact ra_zret E hr rfl dL_act_718 ⟨Or.inl rfl, h⟩
        · replace h := h.2 q159
          refine ra_aload_n E dL_act_701 rfl 4 rfl ?_
          refine ra_callIV (rest := []) E (c_X12_coins _ _ h) (lq_X12 _) cv_X12_coins ml_L_42 (by decide) (lm (by decide)) (fun R => ⟨_, cel_0 tc ad R⟩) rfl rfl rfl (Nat.le_of_ble_eq_true rfl) ⟨Nat.le_of_ble_eq_true rfl, Nat.le_of_ble_eq_true rfl⟩ ⟨Nat.zero_le _, Nat.zero_le _⟩ dL_act_702 (fun r161 M160 h => ?_)
          refine ra_iload E dL_act_705 1 rfl ?_
          refine ra_iload E dL_act_707 0 rfl ?_
          refine ra_isub E dL_act_709 ?_
          refine ra_icmp_ne (tgt := 717) E dL_act_710 (by decide) (fun q162 => ?_) (fun q162 => ?_)
          · replace h := h.1 q162
            refine ra_iconst E dL_act_717 ki_0 ?_
            exact ra_zret E hr rfl dL_act_718 ⟨Or.inl rfl, h⟩
          · replace h := h.2 q162
            refine ra_iconst E dL_act_713 ki_1 ?_
            refine ra_goto (tgt := 718) E dL_act_714 (by decide) ?_
            exact ra_zret E hr rfl dL_act_718 ⟨Or.inr rfl, h⟩
def f_L_act_L637 (p1 : Int32) (K : Int32 → TM → Prop) (x2 : Int32) (x3 : Int32) (x4 : Int32) (x5 : Int32) (x6 : Int32) (x7 : Int32) (x8 : Int32) (M : TM) : Prop := f_L_act_L638 p1 K x2 x3 x4 x5 x6 x7 x8 (0 : Int32) M
set_option maxRecDepth 100000 in
set_option maxHeartbeats 4000000 in
theorem l_L_act_L637 {p : Program} {l : Launch} {e : Env} {s : State} {m : MethodId} {args : Array Value} {below : List Frame} {meth : Method} {c : Code} {D : va_G} {tc : Nat → ClassId} {ad : Nat → Nat} (p1 : Int32) {K : Int32 → TM → Prop} (E : Ev p s m args meth c D tc ad RL cL_act 20) (hr : meth.sig.returnType = (some .boolean)) : ∀ (x2 : Int32) (x3 : Int32) (x4 : Int32) (x5 : Int32) (x6 : Int32) (x7 : Int32) (x8 : Int32) (M : TM) , f_L_act_L637 p1 K x2 x3 x4 x5 x6 x7 x8 M → Wa p l e (rmD 5) s m args below meth c 0 0 (MQ below (va_Qi (fun r M' => (r = 0 ∨ r = 1) ∧ K r M') (EndW D tc ad) (A0 ad s.heap.size)) args s 0 0 (A0 ad s.heap.size)) D tc ad 20 M 637 [(0, .ref (ad 0)), (2, .int x2), (3, .int x3), (4, .int x4), (5, .int x5), (6, .int x6), (7, .int x7), (8, .int x8)] [] := by
  intro x2 x3 x4 x5 x6 x7 x8 M  h
  unfold f_L_act_L637 at h
  refine ra_iconst E dL_act_637 ki_0 ?_
  exact ra_sub (L' := [(0, _), (2, _), (3, _), (4, _), (5, _), (6, _), (7, _), (8, _)]) [0, 1, 2, 3, 4, 5, 6, 7] rfl (l_L_act_L638 p1 E hr _ _ _ _ _ _ _ _ _ h)
def f_L_act_L617 (p1 : Int32) (K : Int32 → TM → Prop) (x2 : Int32) (x3 : Int32) (x4 : Int32) (x5 : Int32) (x6 : Int32) (x7 : Int32) (z0 : Int32) (M : TM) : Prop := ((¬ z0 = 0 → f_L_act_L637 p1 K x2 x3 x4 x5 x6 x7 z0 M) ∧ (z0 = 0 → f_X12_placeOf x4 M (fun r164 M163 => ((¬ r164 = 0 → f_L_act_L637 p1 K x2 x3 x4 x5 x6 x7 z0 M163) ∧ (r164 = 0 → f_L_act_L638 p1 K x2 x3 x4 x5 x6 x7 z0 (1 : Int32) M163)))))
set_option maxRecDepth 100000 in
set_option maxHeartbeats 4000000 in
theorem l_L_act_L617 {p : Program} {l : Launch} {e : Env} {s : State} {m : MethodId} {args : Array Value} {below : List Frame} {meth : Method} {c : Code} {D : va_G} {tc : Nat → ClassId} {ad : Nat → Nat} (p1 : Int32) {K : Int32 → TM → Prop} (E : Ev p s m args meth c D tc ad RL cL_act 20) (hr : meth.sig.returnType = (some .boolean)) : ∀ (x2 : Int32) (x3 : Int32) (x4 : Int32) (x5 : Int32) (x6 : Int32) (x7 : Int32) (z0 : Int32) (M : TM) , f_L_act_L617 p1 K x2 x3 x4 x5 x6 x7 z0 M → Wa p l e (rmD 5) s m args below meth c 0 0 (MQ below (va_Qi (fun r M' => (r = 0 ∨ r = 1) ∧ K r M') (EndW D tc ad) (A0 ad s.heap.size)) args s 0 0 (A0 ad s.heap.size)) D tc ad 20 M 617 [(0, .ref (ad 0)), (2, .int x2), (3, .int x3), (4, .int x4), (5, .int x5), (6, .int x6), (7, .int x7)] [.int z0] := by
  intro x2 x3 x4 x5 x6 x7 z0 M  h
  unfold f_L_act_L617 at h
  refine ra_istore (L' := [(8, _), (0, _), (2, _), (3, _), (4, _), (5, _), (6, _), (7, _)]) E dL_act_617 (by decide) rfl ?_
  refine ra_iload E dL_act_619 0 rfl ?_
  refine ra_if_ne (tgt := 637) E dL_act_621 (by decide) (fun q51 => ?_) (fun q51 => ?_)
  · replace h := h.1 q51
    exact ra_sub (L' := [(0, _), (2, _), (3, _), (4, _), (5, _), (6, _), (7, _), (8, _)]) [1, 2, 3, 4, 5, 6, 7, 0] rfl (l_L_act_L637 p1 E hr _ _ _ _ _ _ _ _ h)
  · replace h := h.2 q51
    refine ra_aload_n E dL_act_624 rfl 1 rfl ?_
    refine ra_iload E dL_act_625 4 rfl ?_
    refine ra_callIV (rest := []) E (c_X12_placeOf _ _ _ h) (lq_X12 _) cv_X12_placeOf ml_L_51 (by decide) (lm (by decide)) (fun R => ⟨_, cel_0 tc ad R⟩) rfl rfl rfl (Nat.le_of_ble_eq_true rfl) ⟨Nat.le_of_ble_eq_true rfl, Nat.le_of_ble_eq_true rfl⟩ ⟨Nat.zero_le _, Nat.zero_le _⟩ dL_act_627 (fun r164 M163 h => ?_)
    refine ra_if_ne (tgt := 637) E dL_act_630 (by decide) (fun q165 => ?_) (fun q165 => ?_)
    · replace h := h.1 q165
      exact ra_sub (L' := [(0, _), (2, _), (3, _), (4, _), (5, _), (6, _), (7, _), (8, _)]) [1, 2, 3, 4, 5, 6, 7, 0] rfl (l_L_act_L637 p1 E hr _ _ _ _ _ _ _ _ h)
    · replace h := h.2 q165
      refine ra_iconst E dL_act_633 ki_1 ?_
      refine ra_goto (tgt := 638) E dL_act_634 (by decide) ?_
      exact ra_sub (L' := [(0, _), (2, _), (3, _), (4, _), (5, _), (6, _), (7, _), (8, _)]) [1, 2, 3, 4, 5, 6, 7, 0] rfl (l_L_act_L638 p1 E hr _ _ _ _ _ _ _ _ _ h)
def f_L_act_L401 (p1 : Int32) (K : Int32 → TM → Prop) (x7 : Int32) (x8 : Int32) (M : TM) : Prop := f_X12_isOpen x7 M (fun r201 M200 => ((r201 = 0 → K (1 : Int32) M200) ∧ (¬ r201 = 0 → (((4 : Int32) < x8 → K (0 : Int32) M200) ∧ (¬ (4 : Int32) < x8 → K (1 : Int32) M200)))))
set_option maxRecDepth 100000 in
set_option maxHeartbeats 4000000 in
theorem l_L_act_L401 {p : Program} {l : Launch} {e : Env} {s : State} {m : MethodId} {args : Array Value} {below : List Frame} {meth : Method} {c : Code} {D : va_G} {tc : Nat → ClassId} {ad : Nat → Nat} (p1 : Int32) {K : Int32 → TM → Prop} (E : Ev p s m args meth c D tc ad RL cL_act 20) (hr : meth.sig.returnType = (some .boolean)) : ∀ (x7 : Int32) (x8 : Int32) (M : TM) , f_L_act_L401 p1 K x7 x8 M → Wa p l e (rmD 5) s m args below meth c 0 0 (MQ below (va_Qi (fun r M' => (r = 0 ∨ r = 1) ∧ K r M') (EndW D tc ad) (A0 ad s.heap.size)) args s 0 0 (A0 ad s.heap.size)) D tc ad 20 M 401 [(0, .ref (ad 0)), (7, .int x7), (8, .int x8)] [] := by
  intro x7 x8 M  h
  unfold f_L_act_L401 at h
  refine ra_aload_n E dL_act_401 rfl 0 rfl ?_
  refine ra_iload E dL_act_402 1 rfl ?_
  refine ra_callIV (rest := []) E (c_X12_isOpen _ _ _ h) (lq_X12 _) cv_X12_isOpen ml_L_83 (by decide) (lm (by decide)) (fun R => ⟨_, cel_0 tc ad R⟩) rfl rfl rfl (Nat.le_of_ble_eq_true rfl) ⟨Nat.le_of_ble_eq_true rfl, Nat.le_of_ble_eq_true rfl⟩ ⟨Nat.zero_le _, Nat.zero_le _⟩ dL_act_404 (fun r201 M200 h => ?_)
  obtain ⟨b202, h⟩ := h
  refine ra_if_eq (tgt := 416) E dL_act_407 (by decide) (fun q203 => ?_) (fun q203 => ?_)
  · replace h := h.1 q203
    refine ra_iconst E dL_act_416 ki_1 ?_
    refine ra_goto (tgt := 421) E dL_act_417 (by decide) ?_
    exact ra_zret E hr rfl dL_act_421 ⟨Or.inr rfl, h⟩
  · replace h := h.2 q203
    refine ra_iload E dL_act_410 2 rfl ?_
    refine ra_iconst E dL_act_412 ki_4 ?_
    refine ra_icmp_gt (tgt := 420) E dL_act_413 (by decide) (fun q204 => ?_) (fun q204 => ?_)
    · replace h := h.1 q204
      refine ra_iconst E dL_act_420 ki_0 ?_
      exact ra_zret E hr rfl dL_act_421 ⟨Or.inl rfl, h⟩
    · replace h := h.2 q204
      refine ra_iconst E dL_act_416 ki_1 ?_
      refine ra_goto (tgt := 421) E dL_act_417 (by decide) ?_
      exact ra_zret E hr rfl dL_act_421 ⟨Or.inr rfl, h⟩
def f_L_act (p1 : Int32) (M : TM) (K : Int32 → TM → Prop) : Prop := f_L_most p1 (24 : Int32) M (fun r2 M1 => f_X12_bargeCount M1 (fun r4 M3 => f_L_most (p1 >>> ((4 : Int32) &&& 31)) r4 M3 (fun r6 M5 => f_X12_placeCount M5 (fun r8 M7 => f_L_most ((p1 >>> ((4 : Int32) &&& 31)) >>> ((2 : Int32) &&& 31)) r8 M7 (fun r10 M9 => f_X12_orderCount M9 (fun r12 M11 => (((6 : Int32) ≤ r2 → ((r2 < (8 : Int32) → f_L_act_L223 p1 K (p1 >>> ((4 : Int32) &&& 31)) r10 r12 M11) ∧ (¬ r2 < (8 : Int32) → ((¬ r12 = 0 → f_L_most ((p1 >>> ((4 : Int32) &&& 31)) >>> ((3 : Int32) &&& 31)) r12 M11 (fun r45 M44 => (((12 : Int32) ≤ r2 → ((¬ r2 = (12 : Int32) → f_X12_timeInLock r6 M44 (fun r49 M48 => ((r49 ≤ 0 → f_L_act_L617 p1 K r2 (p1 >>> ((4 : Int32) &&& 31)) r6 r10 r12 r45 (0 : Int32) M48) ∧ (¬ r49 ≤ 0 → f_L_act_L617 p1 K r2 (p1 >>> ((4 : Int32) &&& 31)) r6 r10 r12 r45 (1 : Int32) M48)))) ∧ (r2 = (12 : Int32) → f_X12_bargeOf r45 M44 (fun r167 M166 => ((0 ≤ r167 → f_X12_flour r167 M166 (fun r170 M169 => f_X12_drop r45 M169 (fun r172 M171 => ((¬ r172 = r167 → K (0 : Int32) M171) ∧ (r172 = r167 → f_X12_isOpen r45 M171 (fun r175 M174 => ((r175 = 0 → K (0 : Int32) M174) ∧ (¬ r175 = 0 → f_X12_flour r167 M174 (fun r179 M178 => ((¬ r179 = r170 → K (0 : Int32) M178) ∧ (r179 = r170 → f_X12_pullsLeft r45 M178 (fun r182 M181 => f_X12_bowls r45 M181 (fun r184 M183 => f_X12_bowls r45 M183 (fun r186 M185 => f_X12_price r45 M185 (fun r188 M187 => ((¬ ((r182 * r184) + ((3 : Int32) * r186)) = r188 → K (0 : Int32) M187) ∧ (((r182 * r184) + ((3 : Int32) * r186)) = r188 → K (1 : Int32) M187))))))))))))))))) ∧ (¬ 0 ≤ r167 → f_X12_isReady r45 M166 (fun r191 M190 => ((¬ r191 = 0 → K (0 : Int32) M190) ∧ (r191 = 0 → K (1 : Int32) M190))))))))) ∧ (¬ (12 : Int32) ≤ r2 → f_X12_queueLength r6 M44 (fun r195 M194 => f_X12_isOpen r45 M194 (fun r197 M196 => ((r197 = 0 → f_L_act_L401 p1 K r45 r195 M196) ∧ (¬ r197 = 0 → f_X12_readyCount r6 M196 (fun r206 M205 => ((¬ (r195 + r206) = (4 : Int32) → f_X12_flourNeeded r6 M205 (fun r209 M208 => f_X12_take r6 r45 M208 (fun r211 M210 => ((¬ r211 = (r195 + (1 : Int32)) → K (0 : Int32) M210) ∧ (r211 = (r195 + (1 : Int32)) → f_X12_queuedOrder r6 r195 M210 (fun r214 M213 => ((¬ r214 = r45 → K (0 : Int32) M213) ∧ (r214 = r45 → f_X12_bargeOf r45 M213 (fun r217 M216 => ((¬ r217 = r6 → K (0 : Int32) M216) ∧ (r217 = r6 → f_X12_flourNeeded r6 M216 (fun r220 M219 => f_X12_bowls r45 M219 (fun r222 M221 => ((¬ r220 = (r209 + r222) → K (0 : Int32) M221) ∧ (r220 = (r209 + r222) → K (1 : Int32) M221))))))))))))))) ∧ ((r195 + r206) = (4 : Int32) → f_L_act_L401 p1 K r45 r195 M205))))))))))) ∧ (r12 = 0 → f_L_act_L223 p1 K (p1 >>> ((4 : Int32) &&& 31)) r10 r12 M11))))) ∧ (¬ (6 : Int32) ≤ r2 → f_X12_sailObstacle r6 r10 M11 (fun r225 M224 => ((r225 ≤ 0 → f_X12_placeOf r6 M224 (fun r228 M227 => f_X12_journeyTime r228 r10 M227 (fun r230 M229 => f_X12_sail r6 r10 M229 (fun r232 M231 => ((¬ r232 = r230 → K (0 : Int32) M231) ∧ (r232 = r230 → f_X12_targetOf r6 M231 (fun r235 M234 => ((¬ r235 = r10 → K (0 : Int32) M234) ∧ (r235 = r10 → f_X12_placeOf r6 M234 (fun r238 M237 => ((¬ r238 = r228 → K (0 : Int32) M237) ∧ (r238 = r228 → f_X12_sailObstacle r6 r10 M237 (fun r241 M240 => ((¬ r241 = (2 : Int32) → K (0 : Int32) M240) ∧ (r241 = (2 : Int32) → f_X12_minutesToTarget r6 M240 (fun r244 M243 => ((r230 ≤ r244 → K (1 : Int32) M243) ∧ (¬ r230 ≤ r244 → f_X12_minutesToTarget r6 M243 (fun r247 M246 => ((¬ r247 = (-1 : Int32) → K (0 : Int32) M246) ∧ (r247 = (-1 : Int32) → K (1 : Int32) M246))))))))))))))))))))) ∧ (¬ r225 ≤ 0 → ((¬ r225 = (1 : Int32) → ((¬ r225 = (2 : Int32) → ((¬ r225 = (3 : Int32) → K (0 : Int32) M224) ∧ (r225 = (3 : Int32) → K (1 : Int32) M224))) ∧ (r225 = (2 : Int32) → f_X12_targetOf r6 M224 (fun r253 M252 => ((¬ r253 = r10 → K (0 : Int32) M252) ∧ (r253 = r10 → K (1 : Int32) M252)))))) ∧ (r225 = (1 : Int32) → f_X12_timeInLock r6 M224 (fun r256 M255 => ((r256 ≤ 0 → K (0 : Int32) M255) ∧ (¬ r256 ≤ 0 → K (1 : Int32) M255))))))))))))))))
set_option maxRecDepth 100000 in
set_option maxHeartbeats 4000000 in
theorem c_L_act {ad : Nat → Nat} (p1 : Int32) (M : TM) (K : Int32 → TM → Prop) (h : f_L_act p1 M K) : MI yL_act cL_act 20 (some .boolean) 5 ad [.ref (ad 0), .int p1] M (fun r M' => (r = 0 ∨ r = 1) ∧ K r M') := by
  refine MI_of RL rfl (by decide +kernel) (Nat.le_of_ble_eq_true rfl) (fun p l e s m below meth c D tc E hr => ?_)
  unfold f_L_act at h
  refine ra_iload_n E dL_act_0 rfl 1 rfl ?_
  refine ra_bipush E dL_act_1 kb_24 ?_
  refine ra_callIS (rest := []) E (c_L_most _ _ _ _ h) (Nat.le_refl _) ct_L_most ml_L_154 (by decide) rfl rfl (Nat.le_of_ble_eq_true rfl) ⟨Nat.le_of_ble_eq_true rfl, Nat.le_of_ble_eq_true rfl⟩ ⟨Nat.zero_le _, Nat.zero_le _⟩ dL_act_3 (fun r2 M1 h => ?_)
  refine ra_istore_n (L' := [(2, _), (0, _), (1, _)]) E dL_act_6 rfl (by decide) rfl ?_
  refine ra_iload_n E dL_act_7 rfl 2 rfl ?_
  refine ra_iconst E dL_act_8 ki_4 ?_
  refine ra_ishr E dL_act_9 ?_
  refine ra_istore_n (L' := [(3, _), (2, _), (0, _), (1, _)]) E dL_act_10 rfl (by decide) rfl ?_
  refine ra_iload_n E dL_act_11 rfl 0 rfl ?_
  refine ra_aload_n E dL_act_12 rfl 2 rfl ?_
  refine ra_callIV (rest := [_]) E (c_X12_bargeCount _ _ h) (lq_X12 _) cv_X12_bargeCount ml_L_30 (by decide) (lm (by decide)) (fun R => ⟨_, cel_0 tc ad R⟩) rfl rfl rfl (Nat.le_of_ble_eq_true rfl) ⟨Nat.le_of_ble_eq_true rfl, Nat.le_of_ble_eq_true rfl⟩ ⟨Nat.zero_le _, Nat.zero_le _⟩ dL_act_13 (fun r4 M3 h => ?_)
  refine ra_callIS (rest := []) E (c_L_most _ _ _ _ h) (Nat.le_refl _) ct_L_most ml_L_154 (by decide) rfl rfl (Nat.le_of_ble_eq_true rfl) ⟨Nat.le_of_ble_eq_true rfl, Nat.le_of_ble_eq_true rfl⟩ ⟨Nat.zero_le _, Nat.zero_le _⟩ dL_act_16 (fun r6 M5 h => ?_)
  refine ra_istore (L' := [(4, _), (3, _), (2, _), (0, _), (1, _)]) E dL_act_19 (by decide) rfl ?_
  refine ra_iload_n E dL_act_21 rfl 1 rfl ?_
  refine ra_iconst E dL_act_22 ki_2 ?_
  refine ra_ishr E dL_act_23 ?_
  refine ra_aload_n E dL_act_24 rfl 3 rfl ?_
  refine ra_callIV (rest := [_]) E (c_X12_placeCount _ _ h) (lq_X12 _) cv_X12_placeCount ml_L_36 (by decide) (lm (by decide)) (fun R => ⟨_, cel_0 tc ad R⟩) rfl rfl rfl (Nat.le_of_ble_eq_true rfl) ⟨Nat.le_of_ble_eq_true rfl, Nat.le_of_ble_eq_true rfl⟩ ⟨Nat.zero_le _, Nat.zero_le _⟩ dL_act_25 (fun r8 M7 h => ?_)
  refine ra_callIS (rest := []) E (c_L_most _ _ _ _ h) (Nat.le_refl _) ct_L_most ml_L_154 (by decide) rfl rfl (Nat.le_of_ble_eq_true rfl) ⟨Nat.le_of_ble_eq_true rfl, Nat.le_of_ble_eq_true rfl⟩ ⟨Nat.zero_le _, Nat.zero_le _⟩ dL_act_28 (fun r10 M9 h => ?_)
  refine ra_istore (L' := [(5, _), (4, _), (3, _), (2, _), (0, _), (1, _)]) E dL_act_31 (by decide) rfl ?_
  refine ra_aload_n E dL_act_33 rfl 4 rfl ?_
  refine ra_callIV (rest := []) E (c_X12_orderCount _ _ h) (lq_X12 _) cv_X12_orderCount ml_L_33 (by decide) (lm (by decide)) (fun R => ⟨_, cel_0 tc ad R⟩) rfl rfl rfl (Nat.le_of_ble_eq_true rfl) ⟨Nat.le_of_ble_eq_true rfl, Nat.le_of_ble_eq_true rfl⟩ ⟨Nat.zero_le _, Nat.zero_le _⟩ dL_act_34 (fun r12 M11 h => ?_)
  refine ra_istore (L' := [(6, _), (5, _), (4, _), (3, _), (2, _), (0, _), (1, _)]) E dL_act_37 (by decide) rfl ?_
  refine ra_iload_n E dL_act_39 rfl 4 rfl ?_
  refine ra_bipush E dL_act_40 kb_6 ?_
  refine ra_icmp_ge (tgt := 212) E dL_act_42 (by decide) (fun q13 => ?_) (fun q13 => ?_)
  · replace h := h.1 q13
    refine ra_iload_n E dL_act_212 rfl 4 rfl ?_
    refine ra_bipush E dL_act_213 kb_8 ?_
    refine ra_icmp_lt (tgt := 223) E dL_act_215 (by decide) (fun q14 => ?_) (fun q14 => ?_)
    · replace h := h.1 q14
      exact ra_sub (L' := [(0, _), (3, _), (5, _), (6, _)]) [5, 3, 1, 0] rfl (l_L_act_L223 p1 E hr _ _ _ _ h)
    · replace h := h.2 q14
      refine ra_iload E dL_act_218 0 rfl ?_
      refine ra_if_ne (tgt := 355) E dL_act_220 (by decide) (fun q43 => ?_) (fun q43 => ?_)
      · replace h := h.1 q43
        refine ra_iload_n E dL_act_355 rfl 3 rfl ?_
        refine ra_iconst E dL_act_356 ki_3 ?_
        refine ra_ishr E dL_act_357 ?_
        refine ra_iload E dL_act_358 0 rfl ?_
        refine ra_callIS (rest := []) E (c_L_most _ _ _ _ h) (Nat.le_refl _) ct_L_most ml_L_154 (by decide) rfl rfl (Nat.le_of_ble_eq_true rfl) ⟨Nat.le_of_ble_eq_true rfl, Nat.le_of_ble_eq_true rfl⟩ ⟨Nat.zero_le _, Nat.zero_le _⟩ dL_act_360 (fun r45 M44 h => ?_)
        refine ra_istore (L' := [(7, _), (6, _), (5, _), (4, _), (3, _), (2, _), (0, _), (1, _)]) E dL_act_363 (by decide) rfl ?_
        refine ra_iload_n E dL_act_365 rfl 5 rfl ?_
        refine ra_bipush E dL_act_366 kb_12 ?_
        refine ra_icmp_ge (tgt := 493) E dL_act_368 (by decide) (fun q46 => ?_) (fun q46 => ?_)
        · replace h := h.1 q46
          refine ra_iload_n E dL_act_493 rfl 5 rfl ?_
          refine ra_bipush E dL_act_494 kb_12 ?_
          refine ra_icmp_ne (tgt := 603) E dL_act_496 (by decide) (fun q47 => ?_) (fun q47 => ?_)
          · replace h := h.1 q47
            refine ra_aload_n E dL_act_603 rfl 6 rfl ?_
            refine ra_iload E dL_act_604 3 rfl ?_
            refine ra_callIV (rest := []) E (c_X12_timeInLock _ _ _ h) (lq_X12 _) cv_X12_timeInLock ml_L_58 (by decide) (lm (by decide)) (fun R => ⟨_, cel_0 tc ad R⟩) rfl rfl rfl (Nat.le_of_ble_eq_true rfl) ⟨Nat.le_of_ble_eq_true rfl, Nat.le_of_ble_eq_true rfl⟩ ⟨Nat.zero_le _, Nat.zero_le _⟩ dL_act_606 (fun r49 M48 h => ?_)
            refine ra_if_le (tgt := 616) E dL_act_609 (by decide) (fun q50 => ?_) (fun q50 => ?_)
            · replace h := h.1 q50
              refine ra_iconst E dL_act_616 ki_0 ?_
              exact ra_sub (L' := [(0, _), (2, _), (3, _), (4, _), (5, _), (6, _), (7, _)]) [6, 5, 4, 3, 2, 1, 0] rfl (l_L_act_L617 p1 E hr _ _ _ _ _ _ _ _ h)
            · replace h := h.2 q50
              refine ra_iconst E dL_act_612 ki_1 ?_
              refine ra_goto (tgt := 617) E dL_act_613 (by decide) ?_
              exact ra_sub (L' := [(0, _), (2, _), (3, _), (4, _), (5, _), (6, _), (7, _)]) [6, 5, 4, 3, 2, 1, 0] rfl (l_L_act_L617 p1 E hr _ _ _ _ _ _ _ _ h)
          · replace h := h.2 q47
            refine ra_aload_n E dL_act_499 rfl 6 rfl ?_
            refine ra_iload E dL_act_500 0 rfl ?_
            refine ra_callIV (rest := []) E (c_X12_bargeOf _ _ _ h) (lq_X12 _) cv_X12_bargeOf ml_L_77 (by decide) (lm (by decide)) (fun R => ⟨_, cel_0 tc ad R⟩) rfl rfl rfl (Nat.le_of_ble_eq_true rfl) ⟨Nat.le_of_ble_eq_true rfl, Nat.le_of_ble_eq_true rfl⟩ ⟨Nat.zero_le _, Nat.zero_le _⟩ dL_act_502 (fun r167 M166 h => ?_)
            refine ra_istore (L' := [(8, _), (7, _), (6, _), (5, _), (4, _), (3, _), (2, _), (0, _), (1, _)]) E dL_act_505 (by decide) rfl ?_
            refine ra_iload E dL_act_507 0 rfl ?_
            refine ra_if_ge (tgt := 527) E dL_act_509 (by decide) (fun q168 => ?_) (fun q168 => ?_)
            · replace h := h.1 q168
              refine ra_aload_n E dL_act_527 rfl 7 rfl ?_
              refine ra_iload E dL_act_528 0 rfl ?_
              refine ra_callIV (rest := []) E (c_X12_flour _ _ _ h) (lq_X12 _) cv_X12_flour ml_L_61 (by decide) (lm (by decide)) (fun R => ⟨_, cel_0 tc ad R⟩) rfl rfl rfl (Nat.le_of_ble_eq_true rfl) ⟨Nat.le_of_ble_eq_true rfl, Nat.le_of_ble_eq_true rfl⟩ ⟨Nat.zero_le _, Nat.zero_le _⟩ dL_act_530 (fun r170 M169 h => ?_)
              refine ra_istore (L' := [(9, _), (8, _), (7, _), (6, _), (5, _), (4, _), (3, _), (2, _), (0, _), (1, _)]) E dL_act_533 (by decide) rfl ?_
              refine ra_aload_n E dL_act_535 rfl 8 rfl ?_
              refine ra_iload E dL_act_536 2 rfl ?_
              refine ra_callIV (rest := []) E (c_X12_drop _ _ _ h) (lq_X12 _) cv_X12_drop ml_L_170 (by decide) (lm (by decide)) (fun R => ⟨_, cel_0 tc ad R⟩) rfl rfl rfl (Nat.le_of_ble_eq_true rfl) ⟨Nat.le_of_ble_eq_true rfl, Nat.le_of_ble_eq_true rfl⟩ ⟨Nat.zero_le _, Nat.zero_le _⟩ dL_act_538 (fun r172 M171 h => ?_)
              refine ra_iload E dL_act_541 1 rfl ?_
              refine ra_icmp_ne (tgt := 601) E dL_act_543 (by decide) (fun q173 => ?_) (fun q173 => ?_)
              · replace h := h.1 q173
                refine ra_iconst E dL_act_601 ki_0 ?_
                exact ra_zret E hr rfl dL_act_602 ⟨Or.inl rfl, h⟩
              · replace h := h.2 q173
                refine ra_aload_n E dL_act_546 rfl 8 rfl ?_
                refine ra_iload E dL_act_547 2 rfl ?_
                refine ra_callIV (rest := []) E (c_X12_isOpen _ _ _ h) (lq_X12 _) cv_X12_isOpen ml_L_83 (by decide) (lm (by decide)) (fun R => ⟨_, cel_0 tc ad R⟩) rfl rfl rfl (Nat.le_of_ble_eq_true rfl) ⟨Nat.le_of_ble_eq_true rfl, Nat.le_of_ble_eq_true rfl⟩ ⟨Nat.zero_le _, Nat.zero_le _⟩ dL_act_549 (fun r175 M174 h => ?_)
                obtain ⟨b176, h⟩ := h
                refine ra_if_eq (tgt := 601) E dL_act_552 (by decide) (fun q177 => ?_) (fun q177 => ?_)
                · replace h := h.1 q177
                  refine ra_iconst E dL_act_601 ki_0 ?_
                  exact ra_zret E hr rfl dL_act_602 ⟨Or.inl rfl, h⟩
                · replace h := h.2 q177
                  refine ra_aload_n E dL_act_555 rfl 8 rfl ?_
                  refine ra_iload E dL_act_556 1 rfl ?_
                  refine ra_callIV (rest := []) E (c_X12_flour _ _ _ h) (lq_X12 _) cv_X12_flour ml_L_61 (by decide) (lm (by decide)) (fun R => ⟨_, cel_0 tc ad R⟩) rfl rfl rfl (Nat.le_of_ble_eq_true rfl) ⟨Nat.le_of_ble_eq_true rfl, Nat.le_of_ble_eq_true rfl⟩ ⟨Nat.zero_le _, Nat.zero_le _⟩ dL_act_558 (fun r179 M178 h => ?_)
                  refine ra_iload E dL_act_561 0 rfl ?_
                  refine ra_icmp_ne (tgt := 601) E dL_act_563 (by decide) (fun q180 => ?_) (fun q180 => ?_)
                  · replace h := h.1 q180
                    refine ra_iconst E dL_act_601 ki_0 ?_
                    exact ra_zret E hr rfl dL_act_602 ⟨Or.inl rfl, h⟩
                  · replace h := h.2 q180
                    refine ra_aload_n E dL_act_566 rfl 8 rfl ?_
                    refine ra_iload E dL_act_567 2 rfl ?_
                    refine ra_callIV (rest := []) E (c_X12_pullsLeft _ _ _ h) (lq_X12 _) cv_X12_pullsLeft ml_L_74 (by decide) (lm (by decide)) (fun R => ⟨_, cel_0 tc ad R⟩) rfl rfl rfl (Nat.le_of_ble_eq_true rfl) ⟨Nat.le_of_ble_eq_true rfl, Nat.le_of_ble_eq_true rfl⟩ ⟨Nat.zero_le _, Nat.zero_le _⟩ dL_act_569 (fun r182 M181 h => ?_)
                    refine ra_aload_n E dL_act_572 rfl 8 rfl ?_
                    refine ra_iload E dL_act_573 2 rfl ?_
                    refine ra_callIV (rest := [_]) E (c_X12_bowls _ _ _ h) (lq_X12 _) cv_X12_bowls ml_L_114 (by decide) (lm (by decide)) (fun R => ⟨_, cel_0 tc ad R⟩) rfl rfl rfl (Nat.le_of_ble_eq_true rfl) ⟨Nat.le_of_ble_eq_true rfl, Nat.le_of_ble_eq_true rfl⟩ ⟨Nat.zero_le _, Nat.zero_le _⟩ dL_act_575 (fun r184 M183 h => ?_)
                    refine ra_imul E dL_act_578 ?_
                    refine ra_iconst E dL_act_579 ki_3 ?_
                    refine ra_aload_n E dL_act_580 rfl 8 rfl ?_
                    refine ra_iload E dL_act_581 2 rfl ?_
                    refine ra_callIV (rest := [_, _]) E (c_X12_bowls _ _ _ h) (lq_X12 _) cv_X12_bowls ml_L_114 (by decide) (lm (by decide)) (fun R => ⟨_, cel_0 tc ad R⟩) rfl rfl rfl (Nat.le_of_ble_eq_true rfl) ⟨Nat.le_of_ble_eq_true rfl, Nat.le_of_ble_eq_true rfl⟩ ⟨Nat.zero_le _, Nat.zero_le _⟩ dL_act_583 (fun r186 M185 h => ?_)
                    refine ra_imul E dL_act_586 ?_
                    refine ra_iadd E dL_act_587 ?_
                    refine ra_aload_n E dL_act_588 rfl 8 rfl ?_
                    refine ra_iload E dL_act_589 2 rfl ?_
                    refine ra_callIV (rest := [_]) E (c_X12_price _ _ _ h) (lq_X12 _) cv_X12_price ml_L_164 (by decide) (lm (by decide)) (fun R => ⟨_, cel_0 tc ad R⟩) rfl rfl rfl (Nat.le_of_ble_eq_true rfl) ⟨Nat.le_of_ble_eq_true rfl, Nat.le_of_ble_eq_true rfl⟩ ⟨Nat.zero_le _, Nat.zero_le _⟩ dL_act_591 (fun r188 M187 h => ?_)
                    refine ra_icmp_ne (tgt := 601) E dL_act_594 (by decide) (fun q189 => ?_) (fun q189 => ?_)
                    · replace h := h.1 q189
                      refine ra_iconst E dL_act_601 ki_0 ?_
                      exact ra_zret E hr rfl dL_act_602 ⟨Or.inl rfl, h⟩
                    · replace h := h.2 q189
                      refine ra_iconst E dL_act_597 ki_1 ?_
                      refine ra_goto (tgt := 602) E dL_act_598 (by decide) ?_
                      exact ra_zret E hr rfl dL_act_602 ⟨Or.inr rfl, h⟩
            · replace h := h.2 q168
              refine ra_aload_n E dL_act_512 rfl 7 rfl ?_
              refine ra_iload E dL_act_513 1 rfl ?_
              refine ra_callIV (rest := []) E (c_X12_isReady _ _ _ h) (lq_X12 _) cv_X12_isReady ml_L_87 (by decide) (lm (by decide)) (fun R => ⟨_, cel_0 tc ad R⟩) rfl rfl rfl (Nat.le_of_ble_eq_true rfl) ⟨Nat.le_of_ble_eq_true rfl, Nat.le_of_ble_eq_true rfl⟩ ⟨Nat.zero_le _, Nat.zero_le _⟩ dL_act_515 (fun r191 M190 h => ?_)
              obtain ⟨b192, h⟩ := h
              refine ra_if_ne (tgt := 525) E dL_act_518 (by decide) (fun q193 => ?_) (fun q193 => ?_)
              · replace h := h.1 q193
                refine ra_iconst E dL_act_525 ki_0 ?_
                exact ra_zret E hr rfl dL_act_526 ⟨Or.inl rfl, h⟩
              · replace h := h.2 q193
                refine ra_iconst E dL_act_521 ki_1 ?_
                refine ra_goto (tgt := 526) E dL_act_522 (by decide) ?_
                exact ra_zret E hr rfl dL_act_526 ⟨Or.inr rfl, h⟩
        · replace h := h.2 q46
          refine ra_aload_n E dL_act_371 rfl 6 rfl ?_
          refine ra_iload E dL_act_372 3 rfl ?_
          refine ra_callIV (rest := []) E (c_X12_queueLength _ _ _ h) (lq_X12 _) cv_X12_queueLength ml_L_111 (by decide) (lm (by decide)) (fun R => ⟨_, cel_0 tc ad R⟩) rfl rfl rfl (Nat.le_of_ble_eq_true rfl) ⟨Nat.le_of_ble_eq_true rfl, Nat.le_of_ble_eq_true rfl⟩ ⟨Nat.zero_le _, Nat.zero_le _⟩ dL_act_374 (fun r195 M194 h => ?_)
          refine ra_istore (L' := [(8, _), (7, _), (6, _), (5, _), (4, _), (3, _), (2, _), (0, _), (1, _)]) E dL_act_377 (by decide) rfl ?_
          refine ra_aload_n E dL_act_379 rfl 7 rfl ?_
          refine ra_iload E dL_act_380 1 rfl ?_
          refine ra_callIV (rest := []) E (c_X12_isOpen _ _ _ h) (lq_X12 _) cv_X12_isOpen ml_L_83 (by decide) (lm (by decide)) (fun R => ⟨_, cel_0 tc ad R⟩) rfl rfl rfl (Nat.le_of_ble_eq_true rfl) ⟨Nat.le_of_ble_eq_true rfl, Nat.le_of_ble_eq_true rfl⟩ ⟨Nat.zero_le _, Nat.zero_le _⟩ dL_act_382 (fun r197 M196 h => ?_)
          obtain ⟨b198, h⟩ := h
          refine ra_if_eq (tgt := 401) E dL_act_385 (by decide) (fun q199 => ?_) (fun q199 => ?_)
          · replace h := h.1 q199
            exact ra_sub (L' := [(0, _), (7, _), (8, _)]) [7, 1, 0] rfl (l_L_act_L401 p1 E hr _ _ _ h)
          · replace h := h.2 q199
            refine ra_iload E dL_act_388 0 rfl ?_
            refine ra_aload_n E dL_act_390 rfl 7 rfl ?_
            refine ra_iload E dL_act_391 4 rfl ?_
            refine ra_callIV (rest := [_]) E (c_X12_readyCount _ _ _ h) (lq_X12 _) cv_X12_readyCount ml_L_117 (by decide) (lm (by decide)) (fun R => ⟨_, cel_0 tc ad R⟩) rfl rfl rfl (Nat.le_of_ble_eq_true rfl) ⟨Nat.le_of_ble_eq_true rfl, Nat.le_of_ble_eq_true rfl⟩ ⟨Nat.zero_le _, Nat.zero_le _⟩ dL_act_393 (fun r206 M205 h => ?_)
            refine ra_iadd E dL_act_396 ?_
            refine ra_iconst E dL_act_397 ki_4 ?_
            refine ra_icmp_ne (tgt := 422) E dL_act_398 (by decide) (fun q207 => ?_) (fun q207 => ?_)
            · replace h := h.1 q207
              refine ra_aload_n E dL_act_422 rfl 7 rfl ?_
              refine ra_iload E dL_act_423 4 rfl ?_
              refine ra_callIV (rest := []) E (c_X12_flourNeeded _ _ _ h) (lq_X12 _) cv_X12_flourNeeded ml_L_120 (by decide) (lm (by decide)) (fun R => ⟨_, cel_0 tc ad R⟩) rfl rfl rfl (Nat.le_of_ble_eq_true rfl) ⟨Nat.le_of_ble_eq_true rfl, Nat.le_of_ble_eq_true rfl⟩ ⟨Nat.zero_le _, Nat.zero_le _⟩ dL_act_425 (fun r209 M208 h => ?_)
              refine ra_istore (L' := [(9, _), (8, _), (7, _), (6, _), (5, _), (4, _), (3, _), (2, _), (0, _), (1, _)]) E dL_act_428 (by decide) rfl ?_
              refine ra_aload_n E dL_act_430 rfl 8 rfl ?_
              refine ra_iload E dL_act_431 5 rfl ?_
              refine ra_iload E dL_act_433 2 rfl ?_
              refine ra_callIV (rest := []) E (c_X12_take _ _ _ _ h) (lq_X12 _) cv_X12_take ml_L_167 (by decide) (lm (by decide)) (fun R => ⟨_, cel_0 tc ad R⟩) rfl rfl rfl (Nat.le_of_ble_eq_true rfl) ⟨Nat.le_of_ble_eq_true rfl, Nat.le_of_ble_eq_true rfl⟩ ⟨Nat.zero_le _, Nat.zero_le _⟩ dL_act_435 (fun r211 M210 h => ?_)
              refine ra_iload E dL_act_438 1 rfl ?_
              refine ra_iconst E dL_act_440 ki_1 ?_
              refine ra_iadd E dL_act_441 ?_
              refine ra_icmp_ne (tgt := 491) E dL_act_442 (by decide) (fun q212 => ?_) (fun q212 => ?_)
              · replace h := h.1 q212
                refine ra_iconst E dL_act_491 ki_0 ?_
                exact ra_zret E hr rfl dL_act_492 ⟨Or.inl rfl, h⟩
              · replace h := h.2 q212
                refine ra_aload_n E dL_act_445 rfl 8 rfl ?_
                refine ra_iload E dL_act_446 5 rfl ?_
                refine ra_iload E dL_act_448 1 rfl ?_
                refine ra_callIV (rest := []) E (c_X12_queuedOrder _ _ _ _ h) (lq_X12 _) cv_X12_queuedOrder ml_L_70 (by decide) (lm (by decide)) (fun R => ⟨_, cel_0 tc ad R⟩) rfl rfl rfl (Nat.le_of_ble_eq_true rfl) ⟨Nat.le_of_ble_eq_true rfl, Nat.le_of_ble_eq_true rfl⟩ ⟨Nat.zero_le _, Nat.zero_le _⟩ dL_act_450 (fun r214 M213 h => ?_)
                refine ra_iload E dL_act_453 2 rfl ?_
                refine ra_icmp_ne (tgt := 491) E dL_act_455 (by decide) (fun q215 => ?_) (fun q215 => ?_)
                · replace h := h.1 q215
                  refine ra_iconst E dL_act_491 ki_0 ?_
                  exact ra_zret E hr rfl dL_act_492 ⟨Or.inl rfl, h⟩
                · replace h := h.2 q215
                  refine ra_aload_n E dL_act_458 rfl 8 rfl ?_
                  refine ra_iload E dL_act_459 2 rfl ?_
                  refine ra_callIV (rest := []) E (c_X12_bargeOf _ _ _ h) (lq_X12 _) cv_X12_bargeOf ml_L_77 (by decide) (lm (by decide)) (fun R => ⟨_, cel_0 tc ad R⟩) rfl rfl rfl (Nat.le_of_ble_eq_true rfl) ⟨Nat.le_of_ble_eq_true rfl, Nat.le_of_ble_eq_true rfl⟩ ⟨Nat.zero_le _, Nat.zero_le _⟩ dL_act_461 (fun r217 M216 h => ?_)
                  refine ra_iload E dL_act_464 5 rfl ?_
                  refine ra_icmp_ne (tgt := 491) E dL_act_466 (by decide) (fun q218 => ?_) (fun q218 => ?_)
                  · replace h := h.1 q218
                    refine ra_iconst E dL_act_491 ki_0 ?_
                    exact ra_zret E hr rfl dL_act_492 ⟨Or.inl rfl, h⟩
                  · replace h := h.2 q218
                    refine ra_aload_n E dL_act_469 rfl 8 rfl ?_
                    refine ra_iload E dL_act_470 5 rfl ?_
                    refine ra_callIV (rest := []) E (c_X12_flourNeeded _ _ _ h) (lq_X12 _) cv_X12_flourNeeded ml_L_120 (by decide) (lm (by decide)) (fun R => ⟨_, cel_0 tc ad R⟩) rfl rfl rfl (Nat.le_of_ble_eq_true rfl) ⟨Nat.le_of_ble_eq_true rfl, Nat.le_of_ble_eq_true rfl⟩ ⟨Nat.zero_le _, Nat.zero_le _⟩ dL_act_472 (fun r220 M219 h => ?_)
                    refine ra_iload E dL_act_475 0 rfl ?_
                    refine ra_aload_n E dL_act_477 rfl 8 rfl ?_
                    refine ra_iload E dL_act_478 2 rfl ?_
                    refine ra_callIV (rest := [_, _]) E (c_X12_bowls _ _ _ h) (lq_X12 _) cv_X12_bowls ml_L_114 (by decide) (lm (by decide)) (fun R => ⟨_, cel_0 tc ad R⟩) rfl rfl rfl (Nat.le_of_ble_eq_true rfl) ⟨Nat.le_of_ble_eq_true rfl, Nat.le_of_ble_eq_true rfl⟩ ⟨Nat.zero_le _, Nat.zero_le _⟩ dL_act_480 (fun r222 M221 h => ?_)
                    refine ra_iadd E dL_act_483 ?_
                    refine ra_icmp_ne (tgt := 491) E dL_act_484 (by decide) (fun q223 => ?_) (fun q223 => ?_)
                    · replace h := h.1 q223
                      refine ra_iconst E dL_act_491 ki_0 ?_
                      exact ra_zret E hr rfl dL_act_492 ⟨Or.inl rfl, h⟩
                    · replace h := h.2 q223
                      refine ra_iconst E dL_act_487 ki_1 ?_
                      refine ra_goto (tgt := 492) E dL_act_488 (by decide) ?_
                      exact ra_zret E hr rfl dL_act_492 ⟨Or.inr rfl, h⟩
            · replace h := h.2 q207
              exact ra_sub (L' := [(0, _), (7, _), (8, _)]) [7, 1, 0] rfl (l_L_act_L401 p1 E hr _ _ _ h)
      · replace h := h.2 q43
        exact ra_sub (L' := [(0, _), (3, _), (5, _), (6, _)]) [5, 3, 1, 0] rfl (l_L_act_L223 p1 E hr _ _ _ _ h)
  · replace h := h.2 q13
    refine ra_aload_n E dL_act_45 rfl 5 rfl ?_
    refine ra_iload E dL_act_46 2 rfl ?_
    refine ra_iload E dL_act_48 1 rfl ?_
    refine ra_callIV (rest := []) E (c_X12_sailObstacle _ _ _ _ h) (lq_X12 _) cv_X12_sailObstacle ml_L_126 (by decide) (lm (by decide)) (fun R => ⟨_, cel_0 tc ad R⟩) rfl rfl rfl (Nat.le_of_ble_eq_true rfl) ⟨Nat.le_of_ble_eq_true rfl, Nat.le_of_ble_eq_true rfl⟩ ⟨Nat.zero_le _, Nat.zero_le _⟩ dL_act_50 (fun r225 M224 h => ?_)
    refine ra_istore (L' := [(7, _), (6, _), (5, _), (4, _), (3, _), (2, _), (0, _), (1, _)]) E dL_act_53 (by decide) rfl ?_
    refine ra_iload E dL_act_55 0 rfl ?_
    refine ra_if_le (tgt := 120) E dL_act_57 (by decide) (fun q226 => ?_) (fun q226 => ?_)
    · replace h := h.1 q226
      refine ra_aload_n E dL_act_120 rfl 6 rfl ?_
      refine ra_iload E dL_act_121 3 rfl ?_
      refine ra_callIV (rest := []) E (c_X12_placeOf _ _ _ h) (lq_X12 _) cv_X12_placeOf ml_L_51 (by decide) (lm (by decide)) (fun R => ⟨_, cel_0 tc ad R⟩) rfl rfl rfl (Nat.le_of_ble_eq_true rfl) ⟨Nat.le_of_ble_eq_true rfl, Nat.le_of_ble_eq_true rfl⟩ ⟨Nat.zero_le _, Nat.zero_le _⟩ dL_act_123 (fun r228 M227 h => ?_)
      refine ra_istore (L' := [(8, _), (7, _), (6, _), (5, _), (4, _), (3, _), (2, _), (0, _), (1, _)]) E dL_act_126 (by decide) rfl ?_
      refine ra_aload_n E dL_act_128 rfl 7 rfl ?_
      refine ra_iload E dL_act_129 0 rfl ?_
      refine ra_iload E dL_act_131 3 rfl ?_
      refine ra_callIV (rest := []) E (c_X12_journeyTime _ _ _ _ h) (lq_X12 _) cv_X12_journeyTime ml_L_102 (by decide) (lm (by decide)) (fun R => ⟨_, cel_0 tc ad R⟩) rfl rfl rfl (Nat.le_of_ble_eq_true rfl) ⟨Nat.le_of_ble_eq_true rfl, Nat.le_of_ble_eq_true rfl⟩ ⟨Nat.zero_le _, Nat.zero_le _⟩ dL_act_133 (fun r230 M229 h => ?_)
      refine ra_istore (L' := [(9, _), (8, _), (7, _), (6, _), (5, _), (4, _), (3, _), (2, _), (0, _), (1, _)]) E dL_act_136 (by decide) rfl ?_
      refine ra_aload_n E dL_act_138 rfl 8 rfl ?_
      refine ra_iload E dL_act_139 5 rfl ?_
      refine ra_iload E dL_act_141 4 rfl ?_
      refine ra_callIV (rest := []) E (c_X12_sail _ _ _ _ h) (lq_X12 _) cv_X12_sail ml_L_157 (by decide) (lm (by decide)) (fun R => ⟨_, cel_0 tc ad R⟩) rfl rfl rfl (Nat.le_of_ble_eq_true rfl) ⟨Nat.le_of_ble_eq_true rfl, Nat.le_of_ble_eq_true rfl⟩ ⟨Nat.zero_le _, Nat.zero_le _⟩ dL_act_143 (fun r232 M231 h => ?_)
      refine ra_iload E dL_act_146 0 rfl ?_
      refine ra_icmp_ne (tgt := 210) E dL_act_148 (by decide) (fun q233 => ?_) (fun q233 => ?_)
      · replace h := h.1 q233
        refine ra_iconst E dL_act_210 ki_0 ?_
        exact ra_zret E hr rfl dL_act_211 ⟨Or.inl rfl, h⟩
      · replace h := h.2 q233
        refine ra_aload_n E dL_act_151 rfl 8 rfl ?_
        refine ra_iload E dL_act_152 5 rfl ?_
        refine ra_callIV (rest := []) E (c_X12_targetOf _ _ _ h) (lq_X12 _) cv_X12_targetOf ml_L_55 (by decide) (lm (by decide)) (fun R => ⟨_, cel_0 tc ad R⟩) rfl rfl rfl (Nat.le_of_ble_eq_true rfl) ⟨Nat.le_of_ble_eq_true rfl, Nat.le_of_ble_eq_true rfl⟩ ⟨Nat.zero_le _, Nat.zero_le _⟩ dL_act_154 (fun r235 M234 h => ?_)
        refine ra_iload E dL_act_157 4 rfl ?_
        refine ra_icmp_ne (tgt := 210) E dL_act_159 (by decide) (fun q236 => ?_) (fun q236 => ?_)
        · replace h := h.1 q236
          refine ra_iconst E dL_act_210 ki_0 ?_
          exact ra_zret E hr rfl dL_act_211 ⟨Or.inl rfl, h⟩
        · replace h := h.2 q236
          refine ra_aload_n E dL_act_162 rfl 8 rfl ?_
          refine ra_iload E dL_act_163 5 rfl ?_
          refine ra_callIV (rest := []) E (c_X12_placeOf _ _ _ h) (lq_X12 _) cv_X12_placeOf ml_L_51 (by decide) (lm (by decide)) (fun R => ⟨_, cel_0 tc ad R⟩) rfl rfl rfl (Nat.le_of_ble_eq_true rfl) ⟨Nat.le_of_ble_eq_true rfl, Nat.le_of_ble_eq_true rfl⟩ ⟨Nat.zero_le _, Nat.zero_le _⟩ dL_act_165 (fun r238 M237 h => ?_)
          refine ra_iload E dL_act_168 1 rfl ?_
          refine ra_icmp_ne (tgt := 210) E dL_act_170 (by decide) (fun q239 => ?_) (fun q239 => ?_)
          · replace h := h.1 q239
            refine ra_iconst E dL_act_210 ki_0 ?_
            exact ra_zret E hr rfl dL_act_211 ⟨Or.inl rfl, h⟩
          · replace h := h.2 q239
            refine ra_aload_n E dL_act_173 rfl 8 rfl ?_
            refine ra_iload E dL_act_174 5 rfl ?_
            refine ra_iload E dL_act_176 4 rfl ?_
            refine ra_callIV (rest := []) E (c_X12_sailObstacle _ _ _ _ h) (lq_X12 _) cv_X12_sailObstacle ml_L_126 (by decide) (lm (by decide)) (fun R => ⟨_, cel_0 tc ad R⟩) rfl rfl rfl (Nat.le_of_ble_eq_true rfl) ⟨Nat.le_of_ble_eq_true rfl, Nat.le_of_ble_eq_true rfl⟩ ⟨Nat.zero_le _, Nat.zero_le _⟩ dL_act_178 (fun r241 M240 h => ?_)
            refine ra_iconst E dL_act_181 ki_2 ?_
            refine ra_icmp_ne (tgt := 210) E dL_act_182 (by decide) (fun q242 => ?_) (fun q242 => ?_)
            · replace h := h.1 q242
              refine ra_iconst E dL_act_210 ki_0 ?_
              exact ra_zret E hr rfl dL_act_211 ⟨Or.inl rfl, h⟩
            · replace h := h.2 q242
              refine ra_aload_n E dL_act_185 rfl 8 rfl ?_
              refine ra_iload E dL_act_186 5 rfl ?_
              refine ra_callIV (rest := []) E (c_X12_minutesToTarget _ _ _ h) (lq_X12 _) cv_X12_minutesToTarget ml_L_123 (by decide) (lm (by decide)) (fun R => ⟨_, cel_0 tc ad R⟩) rfl rfl rfl (Nat.le_of_ble_eq_true rfl) ⟨Nat.le_of_ble_eq_true rfl, Nat.le_of_ble_eq_true rfl⟩ ⟨Nat.zero_le _, Nat.zero_le _⟩ dL_act_188 (fun r244 M243 h => ?_)
              refine ra_iload E dL_act_191 0 rfl ?_
              refine ra_icmp_ge (tgt := 206) E dL_act_193 (by decide) (fun q245 => ?_) (fun q245 => ?_)
              · replace h := h.1 q245
                refine ra_iconst E dL_act_206 ki_1 ?_
                refine ra_goto (tgt := 211) E dL_act_207 (by decide) ?_
                exact ra_zret E hr rfl dL_act_211 ⟨Or.inr rfl, h⟩
              · replace h := h.2 q245
                refine ra_aload_n E dL_act_196 rfl 8 rfl ?_
                refine ra_iload E dL_act_197 5 rfl ?_
                refine ra_callIV (rest := []) E (c_X12_minutesToTarget _ _ _ h) (lq_X12 _) cv_X12_minutesToTarget ml_L_123 (by decide) (lm (by decide)) (fun R => ⟨_, cel_0 tc ad R⟩) rfl rfl rfl (Nat.le_of_ble_eq_true rfl) ⟨Nat.le_of_ble_eq_true rfl, Nat.le_of_ble_eq_true rfl⟩ ⟨Nat.zero_le _, Nat.zero_le _⟩ dL_act_199 (fun r247 M246 h => ?_)
                refine ra_iconst E dL_act_202 ki_m1 ?_
                refine ra_icmp_ne (tgt := 210) E dL_act_203 (by decide) (fun q248 => ?_) (fun q248 => ?_)
                · replace h := h.1 q248
                  refine ra_iconst E dL_act_210 ki_0 ?_
                  exact ra_zret E hr rfl dL_act_211 ⟨Or.inl rfl, h⟩
                · replace h := h.2 q248
                  refine ra_iconst E dL_act_206 ki_1 ?_
                  refine ra_goto (tgt := 211) E dL_act_207 (by decide) ?_
                  exact ra_zret E hr rfl dL_act_211 ⟨Or.inr rfl, h⟩
    · replace h := h.2 q226
      refine ra_iload E dL_act_60 0 rfl ?_
      refine ra_iconst E dL_act_62 ki_1 ?_
      refine ra_icmp_ne (tgt := 83) E dL_act_63 (by decide) (fun q249 => ?_) (fun q249 => ?_)
      · replace h := h.1 q249
        refine ra_iload E dL_act_83 0 rfl ?_
        refine ra_iconst E dL_act_85 ki_2 ?_
        refine ra_icmp_ne (tgt := 108) E dL_act_86 (by decide) (fun q250 => ?_) (fun q250 => ?_)
        · replace h := h.1 q250
          refine ra_iload E dL_act_108 0 rfl ?_
          refine ra_iconst E dL_act_110 ki_3 ?_
          refine ra_icmp_ne (tgt := 118) E dL_act_111 (by decide) (fun q251 => ?_) (fun q251 => ?_)
          · replace h := h.1 q251
            refine ra_iconst E dL_act_118 ki_0 ?_
            exact ra_zret E hr rfl dL_act_119 ⟨Or.inl rfl, h⟩
          · replace h := h.2 q251
            refine ra_iconst E dL_act_114 ki_1 ?_
            refine ra_goto (tgt := 119) E dL_act_115 (by decide) ?_
            exact ra_zret E hr rfl dL_act_119 ⟨Or.inr rfl, h⟩
        · replace h := h.2 q250
          refine ra_aload_n E dL_act_89 rfl 6 rfl ?_
          refine ra_iload E dL_act_90 3 rfl ?_
          refine ra_callIV (rest := []) E (c_X12_targetOf _ _ _ h) (lq_X12 _) cv_X12_targetOf ml_L_55 (by decide) (lm (by decide)) (fun R => ⟨_, cel_0 tc ad R⟩) rfl rfl rfl (Nat.le_of_ble_eq_true rfl) ⟨Nat.le_of_ble_eq_true rfl, Nat.le_of_ble_eq_true rfl⟩ ⟨Nat.zero_le _, Nat.zero_le _⟩ dL_act_92 (fun r253 M252 h => ?_)
          refine ra_iload E dL_act_95 2 rfl ?_
          refine ra_icmp_ne (tgt := 104) E dL_act_97 (by decide) (fun q254 => ?_) (fun q254 => ?_)
          · replace h := h.1 q254
            refine ra_iconst E dL_act_104 ki_0 ?_
            refine ra_goto (tgt := 119) E dL_act_105 (by decide) ?_
            exact ra_zret E hr rfl dL_act_119 ⟨Or.inl rfl, h⟩
          · replace h := h.2 q254
            refine ra_iconst E dL_act_100 ki_1 ?_
            refine ra_goto (tgt := 119) E dL_act_101 (by decide) ?_
            exact ra_zret E hr rfl dL_act_119 ⟨Or.inr rfl, h⟩
      · replace h := h.2 q249
        refine ra_aload_n E dL_act_66 rfl 6 rfl ?_
        refine ra_iload E dL_act_67 3 rfl ?_
        refine ra_callIV (rest := []) E (c_X12_timeInLock _ _ _ h) (lq_X12 _) cv_X12_timeInLock ml_L_58 (by decide) (lm (by decide)) (fun R => ⟨_, cel_0 tc ad R⟩) rfl rfl rfl (Nat.le_of_ble_eq_true rfl) ⟨Nat.le_of_ble_eq_true rfl, Nat.le_of_ble_eq_true rfl⟩ ⟨Nat.zero_le _, Nat.zero_le _⟩ dL_act_69 (fun r256 M255 h => ?_)
        refine ra_if_le (tgt := 79) E dL_act_72 (by decide) (fun q257 => ?_) (fun q257 => ?_)
        · replace h := h.1 q257
          refine ra_iconst E dL_act_79 ki_0 ?_
          refine ra_goto (tgt := 119) E dL_act_80 (by decide) ?_
          exact ra_zret E hr rfl dL_act_119 ⟨Or.inl rfl, h⟩
        · replace h := h.2 q257
          refine ra_iconst E dL_act_75 ki_1 ?_
          refine ra_goto (tgt := 119) E dL_act_76 (by decide) ?_
          exact ra_zret E hr rfl dL_act_119 ⟨Or.inr rfl, h⟩
def f_X3_parseSections_L2 (a1 : Nat) (K : TM → Prop) : Nat → Int32 → TM → Prop
  | 0, _, _ => False
  | n + 1, x2, M => (((500 : Int32) ≤ x2 → K M) ∧ (¬ (500 : Int32) ≤ x2 → f_X10_isAtWord 10 M (fun r3 M2 => ((r3 = 0 → f_X10_isAtWord 11 M2 (fun r7 M6 => ((r7 = 0 → K M6) ∧ (¬ r7 = 0 → f_X3_parseBridge a1 M6 (fun M10 => f_X3_parseSections_L2 a1 K n (x2 + 1) M10))))) ∧ (¬ r3 = 0 → f_X3_parseLock a1 M2 (fun M11 => f_X3_parseSections_L2 a1 K n (x2 + 1) M11))))))
set_option maxRecDepth 100000 in
set_option maxHeartbeats 4000000 in
theorem l_X3_parseSections_L2 {p : Program} {l : Launch} {e : Env} {s : State} {m : MethodId} {args : Array Value} {below : List Frame} {meth : Method} {c : Code} {D : va_G} {tc : Nat → ClassId} {ad : Nat → Nat} (a1 : Nat) (h1 : IsCanal a1) {K : TM → Prop} (E : Ev p s m args meth c D tc ad RX3 cX3_parseSections 3) (hr : meth.sig.returnType = none) : ∀ (n : Nat) (x2 : Int32) (M : TM) , f_X3_parseSections_L2 a1 K n x2 M → Wa p l e (rmD 5) s m args below meth c 0 0 (MQ below (va_Qv K (EndW D tc ad) (A0 ad s.heap.size)) args s 0 0 (A0 ad s.heap.size)) D tc ad 3 M 2 [(0, .ref (ad 1)), (1, .ref (ad a1)), (2, .int x2)] [] := by
  intro n
  induction n with
  | zero => intro x2 M  h; exact h.elim
  | succ n ih =>
    intro x2 M  h
    unfold f_X3_parseSections_L2 at h
    refine ra_iload_n E dX3_parseSections_2 rfl 2 rfl ?_
    refine ra_sipush E dX3_parseSections_3 ks_500 ?_
    refine ra_icmp_ge (tgt := 50) E dX3_parseSections_6 (by decide) (fun q1 => ?_) (fun q1 => ?_)
    · replace h := h.1 q1
      exact ra_vret E hr dX3_parseSections_50 h
    · replace h := h.2 q1
      refine ra_aload_n E dX3_parseSections_9 rfl 0 rfl ?_
      refine ra_ldcS E sr_X3_42 dX3_parseSections_10 ?_
      refine ra_callIV (rest := []) E (c_X10_isAtWord _ (Nat.le_of_ble_eq_true rfl) _ _ h) (lq_X10 _) cv_X10_isAtWord ml_X3_44 (by decide) (lm (by decide)) (fun R => ⟨_, cel_1 tc ad R⟩) rfl rfl rfl (Nat.le_of_ble_eq_true rfl) ⟨Nat.le_of_ble_eq_true rfl, Nat.le_of_ble_eq_true rfl⟩ ⟨Nat.zero_le _, Nat.zero_le _⟩ dX3_parseSections_12 (fun r3 M2 h => ?_)
      obtain ⟨b4, h⟩ := h
      refine ra_if_eq (tgt := 26) E dX3_parseSections_15 (by decide) (fun q5 => ?_) (fun q5 => ?_)
      · replace h := h.1 q5
        refine ra_aload_n E dX3_parseSections_26 rfl 0 rfl ?_
        refine ra_ldcS E sr_X3_51 dX3_parseSections_27 ?_
        refine ra_callIV (rest := []) E (c_X10_isAtWord _ (Nat.le_of_ble_eq_true rfl) _ _ h) (lq_X10 _) cv_X10_isAtWord ml_X3_44 (by decide) (lm (by decide)) (fun R => ⟨_, cel_1 tc ad R⟩) rfl rfl rfl (Nat.le_of_ble_eq_true rfl) ⟨Nat.le_of_ble_eq_true rfl, Nat.le_of_ble_eq_true rfl⟩ ⟨Nat.zero_le _, Nat.zero_le _⟩ dX3_parseSections_29 (fun r7 M6 h => ?_)
        obtain ⟨b8, h⟩ := h
        refine ra_if_eq (tgt := 43) E dX3_parseSections_32 (by decide) (fun q9 => ?_) (fun q9 => ?_)
        · replace h := h.1 q9
          exact ra_vret E hr dX3_parseSections_43 h
        · replace h := h.2 q9
          refine ra_aload_n E dX3_parseSections_35 rfl 0 rfl ?_
          refine ra_aload_n E dX3_parseSections_36 rfl 1 rfl ?_
          refine ra_callVS (rest := []) E (c_X3_parseBridge _ h1 _ _ h) (lq_X3 _) ct_X3_parseBridge ml_X3_53 (by decide) rfl rfl (Nat.le_of_ble_eq_true rfl) ⟨Nat.le_of_ble_eq_true rfl, Nat.le_of_ble_eq_true rfl⟩ ⟨Nat.zero_le _, Nat.zero_le _⟩ dX3_parseSections_37 (fun M10 h => ?_)
          refine ra_goto (tgt := 44) E dX3_parseSections_40 (by decide) ?_
          refine ra_iinc1 (L' := [(2, _), (0, _), (1, _)]) E dX3_parseSections_44 2 rfl (by decide) rfl ?_
          refine ra_goto (tgt := 2) E dX3_parseSections_47 (by decide) ?_
          exact ra_sub (L' := [(0, _), (1, _), (2, _)]) [1, 2, 0] rfl (ih _ _ h)
      · replace h := h.2 q5
        refine ra_aload_n E dX3_parseSections_18 rfl 0 rfl ?_
        refine ra_aload_n E dX3_parseSections_19 rfl 1 rfl ?_
        refine ra_callVS (rest := []) E (c_X3_parseLock _ h1 _ _ h) (lq_X3 _) ct_X3_parseLock ml_X3_48 (by decide) rfl rfl (Nat.le_of_ble_eq_true rfl) ⟨Nat.le_of_ble_eq_true rfl, Nat.le_of_ble_eq_true rfl⟩ ⟨Nat.zero_le _, Nat.zero_le _⟩ dX3_parseSections_20 (fun M11 h => ?_)
        refine ra_goto (tgt := 44) E dX3_parseSections_23 (by decide) ?_
        refine ra_iinc1 (L' := [(2, _), (0, _), (1, _)]) E dX3_parseSections_44 2 rfl (by decide) rfl ?_
        refine ra_goto (tgt := 2) E dX3_parseSections_47 (by decide) ?_
        exact ra_sub (L' := [(0, _), (1, _), (2, _)]) [1, 2, 0] rfl (ih _ _ h)
def f_X3_parseSections (a1 : Nat) (M : TM) (K : TM → Prop) : Prop := ∃ n2, f_X3_parseSections_L2 a1 K n2 (0 : Int32) M
set_option maxRecDepth 100000 in
set_option maxHeartbeats 4000000 in
theorem c_X3_parseSections {ad : Nat → Nat} (a1 : Nat) (h1 : IsCanal a1) (M : TM) (K : TM → Prop) (h : f_X3_parseSections a1 M K) : MV yX3_parseSections cX3_parseSections 3 5 ad [.ref (ad 1), .ref (ad a1)] M K := by
  refine MV_of RX3 rfl (by decide +kernel) (Nat.le_of_ble_eq_true rfl) (fun p l e s m below meth c D tc E hr => ?_)
  unfold f_X3_parseSections at h
  refine ra_iconst E dX3_parseSections_0 ki_0 ?_
  refine ra_istore_n (L' := [(2, _), (0, _), (1, _)]) E dX3_parseSections_1 rfl (by decide) rfl ?_
  obtain ⟨n12, h⟩ := h
  exact ra_sub (L' := [(0, _), (1, _), (2, _)]) [1, 2, 0] rfl (l_X3_parseSections_L2 a1 h1 E hr n12 _ _ h)
def f_X3_parseBarges_L16 (a1 : Nat) (K : TM → Prop) : Nat → Int32 → TM → Prop
  | 0, _, _ => False
  | n + 1, x2, M => (((5 : Int32) < x2 → K M) ∧ (¬ (5 : Int32) < x2 → f_X10_isAtWord 12 M (fun r7 M6 => ((r7 = 0 → K M6) ∧ (¬ r7 = 0 → ((¬ x2 = (5 : Int32) → f_X3_parseBarge a1 M6 (fun M11 => f_X3_parseBarges_L16 a1 K n (x2 + 1) M11)) ∧ (x2 = (5 : Int32) → f_X10_fail (4 : Int32) M6 (fun M12 => f_X3_parseBarges_L16 a1 K n (x2 + 1) M12))))))))
set_option maxRecDepth 100000 in
set_option maxHeartbeats 4000000 in
theorem l_X3_parseBarges_L16 {p : Program} {l : Launch} {e : Env} {s : State} {m : MethodId} {args : Array Value} {below : List Frame} {meth : Method} {c : Code} {D : va_G} {tc : Nat → ClassId} {ad : Nat → Nat} (a1 : Nat) (h1 : IsCanal a1) {K : TM → Prop} (E : Ev p s m args meth c D tc ad RX3 cX3_parseBarges 3) (hr : meth.sig.returnType = none) : ∀ (n : Nat) (x2 : Int32) (M : TM) , f_X3_parseBarges_L16 a1 K n x2 M → Wa p l e (rmD 5) s m args below meth c 0 0 (MQ below (va_Qv K (EndW D tc ad) (A0 ad s.heap.size)) args s 0 0 (A0 ad s.heap.size)) D tc ad 3 M 16 [(0, .ref (ad 1)), (1, .ref (ad a1)), (2, .int x2)] [] := by
  intro n
  induction n with
  | zero => intro x2 M  h; exact h.elim
  | succ n ih =>
    intro x2 M  h
    unfold f_X3_parseBarges_L16 at h
    refine ra_iload_n E dX3_parseBarges_16 rfl 2 rfl ?_
    refine ra_iconst E dX3_parseBarges_17 ki_5 ?_
    refine ra_icmp_gt (tgt := 54) E dX3_parseBarges_18 (by decide) (fun q5 => ?_) (fun q5 => ?_)
    · replace h := h.1 q5
      exact ra_vret E hr dX3_parseBarges_54 h
    · replace h := h.2 q5
      refine ra_aload_n E dX3_parseBarges_21 rfl 0 rfl ?_
      refine ra_ldcS E sr_X3_86 dX3_parseBarges_22 ?_
      refine ra_callIV (rest := []) E (c_X10_isAtWord _ (Nat.le_of_ble_eq_true rfl) _ _ h) (lq_X10 _) cv_X10_isAtWord ml_X3_44 (by decide) (lm (by decide)) (fun R => ⟨_, cel_1 tc ad R⟩) rfl rfl rfl (Nat.le_of_ble_eq_true rfl) ⟨Nat.le_of_ble_eq_true rfl, Nat.le_of_ble_eq_true rfl⟩ ⟨Nat.zero_le _, Nat.zero_le _⟩ dX3_parseBarges_24 (fun r7 M6 h => ?_)
      obtain ⟨b8, h⟩ := h
      refine ra_if_eq (tgt := 54) E dX3_parseBarges_27 (by decide) (fun q9 => ?_) (fun q9 => ?_)
      · replace h := h.1 q9
        exact ra_vret E hr dX3_parseBarges_54 h
      · replace h := h.2 q9
        refine ra_iload_n E dX3_parseBarges_30 rfl 2 rfl ?_
        refine ra_iconst E dX3_parseBarges_31 ki_5 ?_
        refine ra_icmp_ne (tgt := 43) E dX3_parseBarges_32 (by decide) (fun q10 => ?_) (fun q10 => ?_)
        · replace h := h.1 q10
          refine ra_aload_n E dX3_parseBarges_43 rfl 0 rfl ?_
          refine ra_aload_n E dX3_parseBarges_44 rfl 1 rfl ?_
          refine ra_callVS (rest := []) E (c_X3_parseBarge _ h1 _ _ h) (lq_X3 _) ct_X3_parseBarge ml_X3_91 (by decide) rfl rfl (Nat.le_of_ble_eq_true rfl) ⟨Nat.le_of_ble_eq_true rfl, Nat.le_of_ble_eq_true rfl⟩ ⟨Nat.zero_le _, Nat.zero_le _⟩ dX3_parseBarges_45 (fun M11 h => ?_)
          refine ra_iinc1 (L' := [(2, _), (0, _), (1, _)]) E dX3_parseBarges_48 2 rfl (by decide) rfl ?_
          refine ra_goto (tgt := 16) E dX3_parseBarges_51 (by decide) ?_
          exact ra_sub (L' := [(0, _), (1, _), (2, _)]) [1, 2, 0] rfl (ih _ _ h)
        · replace h := h.2 q10
          refine ra_aload_n E dX3_parseBarges_35 rfl 0 rfl ?_
          refine ra_iconst E dX3_parseBarges_36 ki_4 ?_
          refine ra_callVV (rest := []) E (c_X10_fail _ _ _ h) (lq_X10 _) cv_X10_fail ml_X3_88 (by decide) (lm (by decide)) (fun R => ⟨_, cel_1 tc ad R⟩) rfl rfl rfl (Nat.le_of_ble_eq_true rfl) ⟨Nat.le_of_ble_eq_true rfl, Nat.le_of_ble_eq_true rfl⟩ ⟨Nat.zero_le _, Nat.zero_le _⟩ dX3_parseBarges_37 (fun M12 h => ?_)
          refine ra_goto (tgt := 48) E dX3_parseBarges_40 (by decide) ?_
          refine ra_iinc1 (L' := [(2, _), (0, _), (1, _)]) E dX3_parseBarges_48 2 rfl (by decide) rfl ?_
          refine ra_goto (tgt := 16) E dX3_parseBarges_51 (by decide) ?_
          exact ra_sub (L' := [(0, _), (1, _), (2, _)]) [1, 2, 0] rfl (ih _ _ h)
def f_X3_parseBarges (a1 : Nat) (M : TM) (K : TM → Prop) : Prop := f_X10_isAtWord 12 M (fun r2 M1 => ((¬ r2 = 0 → ∃ n16, f_X3_parseBarges_L16 a1 K n16 (0 : Int32) M1) ∧ (r2 = 0 → f_X10_fail (1 : Int32) M1 (fun M14 => ∃ n16, f_X3_parseBarges_L16 a1 K n16 (0 : Int32) M14))))
set_option maxRecDepth 100000 in
set_option maxHeartbeats 4000000 in
theorem c_X3_parseBarges {ad : Nat → Nat} (a1 : Nat) (h1 : IsCanal a1) (M : TM) (K : TM → Prop) (h : f_X3_parseBarges a1 M K) : MV yX3_parseBarges cX3_parseBarges 3 5 ad [.ref (ad 1), .ref (ad a1)] M K := by
  refine MV_of RX3 rfl (by decide +kernel) (Nat.le_of_ble_eq_true rfl) (fun p l e s m below meth c D tc E hr => ?_)
  unfold f_X3_parseBarges at h
  refine ra_aload_n E dX3_parseBarges_0 rfl 0 rfl ?_
  refine ra_ldcS E sr_X3_86 dX3_parseBarges_1 ?_
  refine ra_callIV (rest := []) E (c_X10_isAtWord _ (Nat.le_of_ble_eq_true rfl) _ _ h) (lq_X10 _) cv_X10_isAtWord ml_X3_44 (by decide) (lm (by decide)) (fun R => ⟨_, cel_1 tc ad R⟩) rfl rfl rfl (Nat.le_of_ble_eq_true rfl) ⟨Nat.le_of_ble_eq_true rfl, Nat.le_of_ble_eq_true rfl⟩ ⟨Nat.zero_le _, Nat.zero_le _⟩ dX3_parseBarges_3 (fun r2 M1 h => ?_)
  obtain ⟨b3, h⟩ := h
  refine ra_if_ne (tgt := 14) E dX3_parseBarges_6 (by decide) (fun q4 => ?_) (fun q4 => ?_)
  · replace h := h.1 q4
    refine ra_iconst E dX3_parseBarges_14 ki_0 ?_
    refine ra_istore_n (L' := [(2, _), (0, _), (1, _)]) E dX3_parseBarges_15 rfl (by decide) rfl ?_
    obtain ⟨n13, h⟩ := h
    exact ra_sub (L' := [(0, _), (1, _), (2, _)]) [1, 2, 0] rfl (l_X3_parseBarges_L16 a1 h1 E hr n13 _ _ h)
  · replace h := h.2 q4
    refine ra_aload_n E dX3_parseBarges_9 rfl 0 rfl ?_
    refine ra_iconst E dX3_parseBarges_10 ki_1 ?_
    refine ra_callVV (rest := []) E (c_X10_fail _ _ _ h) (lq_X10 _) cv_X10_fail ml_X3_88 (by decide) (lm (by decide)) (fun R => ⟨_, cel_1 tc ad R⟩) rfl rfl rfl (Nat.le_of_ble_eq_true rfl) ⟨Nat.le_of_ble_eq_true rfl, Nat.le_of_ble_eq_true rfl⟩ ⟨Nat.zero_le _, Nat.zero_le _⟩ dX3_parseBarges_11 (fun M14 h => ?_)
    refine ra_iconst E dX3_parseBarges_14 ki_0 ?_
    refine ra_istore_n (L' := [(2, _), (0, _), (1, _)]) E dX3_parseBarges_15 rfl (by decide) rfl ?_
    obtain ⟨n15, h⟩ := h
    exact ra_sub (L' := [(0, _), (1, _), (2, _)]) [1, 2, 0] rfl (l_X3_parseBarges_L16 a1 h1 E hr n15 _ _ h)
def f_X3_parseOrders_L2 (a1 : Nat) (K : TM → Prop) : Nat → Int32 → TM → Prop
  | 0, _, _ => False
  | n + 1, x2, M => (((30 : Int32) < x2 → K M) ∧ (¬ (30 : Int32) < x2 → f_X10_isAtWord 1 M (fun r3 M2 => ((r3 = 0 → K M2) ∧ (¬ r3 = 0 → ((¬ x2 = (30 : Int32) → f_X3_parseOrder a1 M2 (fun M7 => f_X3_parseOrders_L2 a1 K n (x2 + 1) M7)) ∧ (x2 = (30 : Int32) → f_X10_fail (4 : Int32) M2 (fun M8 => f_X3_parseOrders_L2 a1 K n (x2 + 1) M8))))))))
set_option maxRecDepth 100000 in
set_option maxHeartbeats 4000000 in
theorem l_X3_parseOrders_L2 {p : Program} {l : Launch} {e : Env} {s : State} {m : MethodId} {args : Array Value} {below : List Frame} {meth : Method} {c : Code} {D : va_G} {tc : Nat → ClassId} {ad : Nat → Nat} (a1 : Nat) (h1 : IsCanal a1) {K : TM → Prop} (E : Ev p s m args meth c D tc ad RX3 cX3_parseOrders 3) (hr : meth.sig.returnType = none) : ∀ (n : Nat) (x2 : Int32) (M : TM) , f_X3_parseOrders_L2 a1 K n x2 M → Wa p l e (rmD 5) s m args below meth c 0 0 (MQ below (va_Qv K (EndW D tc ad) (A0 ad s.heap.size)) args s 0 0 (A0 ad s.heap.size)) D tc ad 3 M 2 [(0, .ref (ad 1)), (1, .ref (ad a1)), (2, .int x2)] [] := by
  intro n
  induction n with
  | zero => intro x2 M  h; exact h.elim
  | succ n ih =>
    intro x2 M  h
    unfold f_X3_parseOrders_L2 at h
    refine ra_iload_n E dX3_parseOrders_2 rfl 2 rfl ?_
    refine ra_bipush E dX3_parseOrders_3 kb_30 ?_
    refine ra_icmp_gt (tgt := 42) E dX3_parseOrders_5 (by decide) (fun q1 => ?_) (fun q1 => ?_)
    · replace h := h.1 q1
      exact ra_vret E hr dX3_parseOrders_42 h
    · replace h := h.2 q1
      refine ra_aload_n E dX3_parseOrders_8 rfl 0 rfl ?_
      refine ra_ldcS E sr_X3_98 dX3_parseOrders_9 ?_
      refine ra_callIV (rest := []) E (c_X10_isAtWord _ (Nat.le_of_ble_eq_true rfl) _ _ h) (lq_X10 _) cv_X10_isAtWord ml_X3_44 (by decide) (lm (by decide)) (fun R => ⟨_, cel_1 tc ad R⟩) rfl rfl rfl (Nat.le_of_ble_eq_true rfl) ⟨Nat.le_of_ble_eq_true rfl, Nat.le_of_ble_eq_true rfl⟩ ⟨Nat.zero_le _, Nat.zero_le _⟩ dX3_parseOrders_11 (fun r3 M2 h => ?_)
      obtain ⟨b4, h⟩ := h
      refine ra_if_eq (tgt := 42) E dX3_parseOrders_14 (by decide) (fun q5 => ?_) (fun q5 => ?_)
      · replace h := h.1 q5
        exact ra_vret E hr dX3_parseOrders_42 h
      · replace h := h.2 q5
        refine ra_iload_n E dX3_parseOrders_17 rfl 2 rfl ?_
        refine ra_bipush E dX3_parseOrders_18 kb_30 ?_
        refine ra_icmp_ne (tgt := 31) E dX3_parseOrders_20 (by decide) (fun q6 => ?_) (fun q6 => ?_)
        · replace h := h.1 q6
          refine ra_aload_n E dX3_parseOrders_31 rfl 0 rfl ?_
          refine ra_aload_n E dX3_parseOrders_32 rfl 1 rfl ?_
          refine ra_callVS (rest := []) E (c_X3_parseOrder _ h1 _ _ h) (lq_X3 _) ct_X3_parseOrder ml_X3_100 (by decide) rfl rfl (Nat.le_of_ble_eq_true rfl) ⟨Nat.le_of_ble_eq_true rfl, Nat.le_of_ble_eq_true rfl⟩ ⟨Nat.zero_le _, Nat.zero_le _⟩ dX3_parseOrders_33 (fun M7 h => ?_)
          refine ra_iinc1 (L' := [(2, _), (0, _), (1, _)]) E dX3_parseOrders_36 2 rfl (by decide) rfl ?_
          refine ra_goto (tgt := 2) E dX3_parseOrders_39 (by decide) ?_
          exact ra_sub (L' := [(0, _), (1, _), (2, _)]) [1, 2, 0] rfl (ih _ _ h)
        · replace h := h.2 q6
          refine ra_aload_n E dX3_parseOrders_23 rfl 0 rfl ?_
          refine ra_iconst E dX3_parseOrders_24 ki_4 ?_
          refine ra_callVV (rest := []) E (c_X10_fail _ _ _ h) (lq_X10 _) cv_X10_fail ml_X3_88 (by decide) (lm (by decide)) (fun R => ⟨_, cel_1 tc ad R⟩) rfl rfl rfl (Nat.le_of_ble_eq_true rfl) ⟨Nat.le_of_ble_eq_true rfl, Nat.le_of_ble_eq_true rfl⟩ ⟨Nat.zero_le _, Nat.zero_le _⟩ dX3_parseOrders_25 (fun M8 h => ?_)
          refine ra_goto (tgt := 36) E dX3_parseOrders_28 (by decide) ?_
          refine ra_iinc1 (L' := [(2, _), (0, _), (1, _)]) E dX3_parseOrders_36 2 rfl (by decide) rfl ?_
          refine ra_goto (tgt := 2) E dX3_parseOrders_39 (by decide) ?_
          exact ra_sub (L' := [(0, _), (1, _), (2, _)]) [1, 2, 0] rfl (ih _ _ h)
def f_X3_parseOrders (a1 : Nat) (M : TM) (K : TM → Prop) : Prop := ∃ n2, f_X3_parseOrders_L2 a1 K n2 (0 : Int32) M
set_option maxRecDepth 100000 in
set_option maxHeartbeats 4000000 in
theorem c_X3_parseOrders {ad : Nat → Nat} (a1 : Nat) (h1 : IsCanal a1) (M : TM) (K : TM → Prop) (h : f_X3_parseOrders a1 M K) : MV yX3_parseOrders cX3_parseOrders 3 5 ad [.ref (ad 1), .ref (ad a1)] M K := by
  refine MV_of RX3 rfl (by decide +kernel) (Nat.le_of_ble_eq_true rfl) (fun p l e s m below meth c D tc E hr => ?_)
  unfold f_X3_parseOrders at h
  refine ra_iconst E dX3_parseOrders_0 ki_0 ?_
  refine ra_istore_n (L' := [(2, _), (0, _), (1, _)]) E dX3_parseOrders_1 rfl (by decide) rfl ?_
  obtain ⟨n9, h⟩ := h
  exact ra_sub (L' := [(0, _), (1, _), (2, _)]) [1, 2, 0] rfl (l_X3_parseOrders_L2 a1 h1 E hr n9 _ _ h)
def f_X3_parse (a1 : Nat) (M : TM) (K : TM → Prop) : Prop := f_X10_readWord 9 M (fun M1 => f_X10_readNumber (3 : Int32) (16 : Int32) M1 (fun r3 M2 => f_X2_clear a1 r3 M2 (fun M4 => f_X10_readToken (5 : Int32) M4 (fun M5 => f_X3_parseSections a1 M5 (fun M6 => f_X3_parseBarges a1 M6 (fun M7 => f_X3_parseOrders a1 M7 (fun M8 => f_X10_readToken (0 : Int32) M8 (fun M9 => K M9))))))))
set_option maxRecDepth 100000 in
set_option maxHeartbeats 4000000 in
theorem c_X3_parse {ad : Nat → Nat} (a1 : Nat) (h1 : IsCanal a1) (M : TM) (K : TM → Prop) (h : f_X3_parse a1 M K) : MV yX3_parse cX3_parse 2 6 ad [.ref (ad 1), .ref (ad a1)] M K := by
  refine MV_of RX3 rfl (by decide +kernel) (Nat.le_of_ble_eq_true rfl) (fun p l e s m below meth c D tc E hr => ?_)
  unfold f_X3_parse at h
  refine ra_aload_n E dX3_parse_0 rfl 0 rfl ?_
  refine ra_ldcS E sr_X3_9 dX3_parse_1 ?_
  refine ra_callVV (rest := []) E (c_X10_readWord _ (Nat.le_of_ble_eq_true rfl) _ _ h) (lq_X10 _) cv_X10_readWord ml_X3_11 (by decide) (lm (by decide)) (fun R => ⟨_, cel_1 tc ad R⟩) rfl rfl rfl (Nat.le_of_ble_eq_true rfl) ⟨Nat.le_of_ble_eq_true rfl, Nat.le_of_ble_eq_true rfl⟩ ⟨Nat.zero_le _, Nat.zero_le _⟩ dX3_parse_3 (fun M1 h => ?_)
  refine ra_aload_n E dX3_parse_6 rfl 1 rfl ?_
  refine ra_aload_n E dX3_parse_7 rfl 0 rfl ?_
  refine ra_iconst E dX3_parse_8 ki_3 ?_
  refine ra_bipush E dX3_parse_9 kb_16 ?_
  refine ra_callIV (rest := [_]) E (c_X10_readNumber _ _ _ _ h) (lq_X10 _) cv_X10_readNumber ml_X3_17 (by decide) (lm (by decide)) (fun R => ⟨_, cel_1 tc ad R⟩) rfl rfl rfl (Nat.le_of_ble_eq_true rfl) ⟨Nat.le_of_ble_eq_true rfl, Nat.le_of_ble_eq_true rfl⟩ ⟨Nat.zero_le _, Nat.zero_le _⟩ dX3_parse_11 (fun r3 M2 h => ?_)
  refine ra_callVV (rest := []) E (c_X2_clear _ h1 _ _ _ h) (lq_X2 _) cv_X2_clear ml_X3_21 (by decide) (lm (h1.add (j := 0) (by decide))) (fun R => ⟨_, cel_canal tc ad h1 R⟩) rfl rfl rfl (Nat.le_of_ble_eq_true rfl) ⟨Nat.le_of_ble_eq_true rfl, Nat.le_of_ble_eq_true rfl⟩ ⟨Nat.zero_le _, Nat.zero_le _⟩ dX3_parse_14 (fun M4 h => ?_)
  refine ra_aload_n E dX3_parse_17 rfl 0 rfl ?_
  refine ra_iconst E dX3_parse_18 ki_5 ?_
  refine ra_callVV (rest := []) E (c_X10_readToken _ _ _ h) (lq_X10 _) cv_X10_readToken ml_X3_27 (by decide) (lm (by decide)) (fun R => ⟨_, cel_1 tc ad R⟩) rfl rfl rfl (Nat.le_of_ble_eq_true rfl) ⟨Nat.le_of_ble_eq_true rfl, Nat.le_of_ble_eq_true rfl⟩ ⟨Nat.zero_le _, Nat.zero_le _⟩ dX3_parse_19 (fun M5 h => ?_)
  refine ra_aload_n E dX3_parse_22 rfl 0 rfl ?_
  refine ra_aload_n E dX3_parse_23 rfl 1 rfl ?_
  refine ra_callVS (rest := []) E (c_X3_parseSections _ h1 _ _ h) (lq_X3 _) ct_X3_parseSections ml_X3_30 (by decide) rfl rfl (Nat.le_of_ble_eq_true rfl) ⟨Nat.le_of_ble_eq_true rfl, Nat.le_of_ble_eq_true rfl⟩ ⟨Nat.zero_le _, Nat.zero_le _⟩ dX3_parse_24 (fun M6 h => ?_)
  refine ra_aload_n E dX3_parse_27 rfl 0 rfl ?_
  refine ra_aload_n E dX3_parse_28 rfl 1 rfl ?_
  refine ra_callVS (rest := []) E (c_X3_parseBarges _ h1 _ _ h) (lq_X3 _) ct_X3_parseBarges ml_X3_36 (by decide) rfl rfl (Nat.le_of_ble_eq_true rfl) ⟨Nat.le_of_ble_eq_true rfl, Nat.le_of_ble_eq_true rfl⟩ ⟨Nat.zero_le _, Nat.zero_le _⟩ dX3_parse_29 (fun M7 h => ?_)
  refine ra_aload_n E dX3_parse_32 rfl 0 rfl ?_
  refine ra_aload_n E dX3_parse_33 rfl 1 rfl ?_
  refine ra_callVS (rest := []) E (c_X3_parseOrders _ h1 _ _ h) (lq_X3 _) ct_X3_parseOrders ml_X3_39 (by decide) rfl rfl (Nat.le_of_ble_eq_true rfl) ⟨Nat.le_of_ble_eq_true rfl, Nat.le_of_ble_eq_true rfl⟩ ⟨Nat.zero_le _, Nat.zero_le _⟩ dX3_parse_34 (fun M8 h => ?_)
  refine ra_aload_n E dX3_parse_37 rfl 0 rfl ?_
  refine ra_iconst E dX3_parse_38 ki_0 ?_
  refine ra_callVV (rest := []) E (c_X10_readToken _ _ _ h) (lq_X10 _) cv_X10_readToken ml_X3_27 (by decide) (lm (by decide)) (fun R => ⟨_, cel_1 tc ad R⟩) rfl rfl rfl (Nat.le_of_ble_eq_true rfl) ⟨Nat.le_of_ble_eq_true rfl, Nat.le_of_ble_eq_true rfl⟩ ⟨Nat.zero_le _, Nat.zero_le _⟩ dX3_parse_39 (fun M9 h => ?_)
  exact ra_vret E hr dX3_parse_42 h
def f_X12_loadCanal (p1 : Int32) (M : TM) (K : Int32 → TM → Prop) : Prop := f_X12_requireText p1 M (fun M1 => f_X10_begin p1 M1 (fun M2 => vp_in (M2 0 6) 11 ∧ f_X3_parse (27 + 61 * (M2 0 6).toNatClampNeg) M2 (fun M4 => f_X10_empty M4 (fun M5 => f_X10_failed M5 (fun r7 M6 => ((r7 = 0 → vp_in (M6 0 5) 11 ∧ vp_in (M6 0 6) 11 ∧ ∀ M12, M12 = u2 M6 0 5 (M6 0 6) → ∀ M13, M13 = u2 M12 0 6 (M6 0 5) → f_X5_clear M13 (fun M14 => ∀ M15, M15 = u2 M14 0 4 (0 : Int32) → vp_in (M15 0 5) 11 ∧ K (M15 (27 + 61 * (M15 0 5).toNatClampNeg) 4) M15)) ∧ (¬ r7 = 0 → K (-1 : Int32) M6)))))))
set_option maxRecDepth 100000 in
set_option maxHeartbeats 4000000 in
theorem c_X12_loadCanal {ad : Nat → Nat} (p1 : Int32) (M : TM) (K : Int32 → TM → Prop) (h : f_X12_loadCanal p1 M K) : MI yX12_loadCanal cX12_loadCanal 3 (some .int) 7 ad [.ref (ad 0), .int p1] M K := by
  refine MI_of RX12 rfl (by decide +kernel) (Nat.le_of_ble_eq_true rfl) (fun p l e s m below meth c D tc E hr => ?_)
  unfold f_X12_loadCanal at h
  refine ra_aload_n E dX12_loadCanal_0 rfl 0 rfl ?_
  refine ra_iload_n E dX12_loadCanal_1 rfl 1 rfl ?_
  refine ra_callVV (rest := []) E (c_X12_requireText _ _ _ h) (lq_X12 _) cv_X12_requireText ml_X12_90 (by decide) (lm (by decide)) (fun R => ⟨_, cel_0 tc ad R⟩) rfl rfl rfl (Nat.le_of_ble_eq_true rfl) ⟨Nat.le_of_ble_eq_true rfl, Nat.le_of_ble_eq_true rfl⟩ ⟨Nat.zero_le _, Nat.zero_le _⟩ dX12_loadCanal_2 (fun M1 h => ?_)
  refine ra_aload_n E dX12_loadCanal_5 rfl 0 rfl ?_
  refine gf_X12_0 E fl_X12_10 dX12_loadCanal_6 ?_
  refine ra_iload_n E dX12_loadCanal_9 rfl 1 rfl ?_
  refine ra_callVV (rest := []) E (c_X10_begin _ _ _ h) (lq_X10 _) cv_X10_begin ml_X12_67 (by decide) (lm (by decide)) (fun R => ⟨_, cel_1 tc ad R⟩) rfl rfl rfl (Nat.le_of_ble_eq_true rfl) ⟨Nat.le_of_ble_eq_true rfl, Nat.le_of_ble_eq_true rfl⟩ ⟨Nat.zero_le _, Nat.zero_le _⟩ dX12_loadCanal_10 (fun M2 h => ?_)
  refine ra_aload_n E dX12_loadCanal_13 rfl 0 rfl ?_
  refine gf_X12_0 E fl_X12_10 dX12_loadCanal_14 ?_
  refine ra_aload_n E dX12_loadCanal_17 rfl 0 rfl ?_
  obtain ⟨g3, h⟩ := h
  refine gf_X12_6 E fl_X12_44 dX12_loadCanal_18 ?_
  refine ra_callVS (rest := []) E (c_X3_parse _ (isCanal_of g3) _ _ h) (lq_X3 _) ct_X3_parse ml_X12_71 (by decide) rfl rfl (Nat.le_of_ble_eq_true rfl) ⟨Nat.le_of_ble_eq_true rfl, Nat.le_of_ble_eq_true rfl⟩ ⟨Nat.zero_le _, Nat.zero_le _⟩ dX12_loadCanal_21 (fun M4 h => ?_)
  refine ra_aload_n E dX12_loadCanal_24 rfl 0 rfl ?_
  refine gf_X12_0 E fl_X12_10 dX12_loadCanal_25 ?_
  refine ra_callVV (rest := []) E (c_X10_empty _ _ h) (lq_X10 _) cv_X10_empty ml_X12_77 (by decide) (lm (by decide)) (fun R => ⟨_, cel_1 tc ad R⟩) rfl rfl rfl (Nat.le_of_ble_eq_true rfl) ⟨Nat.le_of_ble_eq_true rfl, Nat.le_of_ble_eq_true rfl⟩ ⟨Nat.zero_le _, Nat.zero_le _⟩ dX12_loadCanal_28 (fun M5 h => ?_)
  refine ra_aload_n E dX12_loadCanal_31 rfl 0 rfl ?_
  refine gf_X12_0 E fl_X12_10 dX12_loadCanal_32 ?_
  refine ra_callIV (rest := []) E (c_X10_failed _ _ h) (lq_X10 _) cv_X10_failed ml_X12_93 (by decide) (lm (by decide)) (fun R => ⟨_, cel_1 tc ad R⟩) rfl rfl rfl (Nat.le_of_ble_eq_true rfl) ⟨Nat.le_of_ble_eq_true rfl, Nat.le_of_ble_eq_true rfl⟩ ⟨Nat.zero_le _, Nat.zero_le _⟩ dX12_loadCanal_35 (fun r7 M6 h => ?_)
  obtain ⟨b8, h⟩ := h
  refine ra_if_eq (tgt := 43) E dX12_loadCanal_38 (by decide) (fun q9 => ?_) (fun q9 => ?_)
  · replace h := h.1 q9
    refine ra_aload_n E dX12_loadCanal_43 rfl 0 rfl ?_
    obtain ⟨g10, h⟩ := h
    refine gf_X12_5 E fl_X12_41 dX12_loadCanal_44 ?_
    refine ra_astore_n (L' := [(2, _), (0, _), (1, _)]) E dX12_loadCanal_47 rfl (by decide) rfl ?_
    refine ra_aload_n E dX12_loadCanal_48 rfl 1 rfl ?_
    refine ra_aload_n E dX12_loadCanal_49 rfl 1 rfl ?_
    obtain ⟨g11, h⟩ := h
    refine gf_X12_6 E fl_X12_44 dX12_loadCanal_50 ?_
    refine pf_X12_5 E _ rfl fl_X12_41 dX12_loadCanal_53 ?_
    replace h := h _ rfl
    refine ra_aload_n E dX12_loadCanal_56 rfl 1 rfl ?_
    refine ra_aload_n E dX12_loadCanal_57 rfl 0 rfl ?_
    refine pf_X12_6 E _ rfl fl_X12_44 dX12_loadCanal_58 ?_
    replace h := h _ rfl
    refine ra_aload_n E dX12_loadCanal_61 rfl 1 rfl ?_
    refine gf_X12_2 E fl_X12_26 dX12_loadCanal_62 ?_
    refine ra_callVV (rest := []) E (c_X5_clear _ _ h) (lq_X5 _) cv_X5_clear ml_X12_97 (by decide) (lm (by decide)) (fun R => ⟨_, cel_25 tc ad R⟩) rfl rfl rfl (Nat.le_of_ble_eq_true rfl) ⟨Nat.le_of_ble_eq_true rfl, Nat.le_of_ble_eq_true rfl⟩ ⟨Nat.zero_le _, Nat.zero_le _⟩ dX12_loadCanal_65 (fun M14 h => ?_)
    refine ra_aload_n E dX12_loadCanal_68 rfl 1 rfl ?_
    refine ra_iconst E dX12_loadCanal_69 ki_0 ?_
    refine pf_X12_4 E fl_X12_37 (by decide) dX12_loadCanal_70 ?_
    replace h := h _ rfl
    refine ra_aload_n E dX12_loadCanal_73 rfl 1 rfl ?_
    obtain ⟨g16, h⟩ := h
    refine gf_X12_5 E fl_X12_41 dX12_loadCanal_74 ?_
    refine gf_X2_4 E (isCanal_of g16) fl_X12_100 dX12_loadCanal_77 ?_
    exact ra_iret E hr dX12_loadCanal_80 h
  · replace h := h.2 q9
    refine ra_iconst E dX12_loadCanal_41 ki_m1 ?_
    exact ra_iret E hr dX12_loadCanal_42 h
def f_L_all_L313 (a4 : Nat) (n4 : Nat) (K : TM → Prop) : Nat → Int32 → Int32 → Int32 → TM → Prop
  | 0, _, _, _, _ => False
  | n + 1, x3, x5, x6, M => ((x3 ≤ x6 → K M) ∧ (¬ x3 ≤ x6 → f_X12_usedPairs x6 M (fun r23 M22 => vp_in x5 n4 ∧ ∀ M25, M25 = u2 M22 a4 x5.toNatClampNeg r23 → f_L_all_L313 a4 n4 K n x3 (x5 + 1) (x6 + 1) M25)))
set_option maxRecDepth 100000 in
set_option maxHeartbeats 4000000 in
theorem l_L_all_L313 {R : Room} {cells slots : Nat} {Q : State → Prop} {p : Program} {l : Launch} {e : Env} {s : State} {m : MethodId} {args : Array Value} {below : List Frame} {meth : Method} {c : Code} {D : va_G} {tc : Nat → ClassId} {ad : Nat → Nat} (a4 : Nat) (n4 : Nat) (h4 : KeptA ad a4 n4) {K : TM → Prop} (E : Ev p s m args meth c D tc ad RL cL_all 7) (hr : meth.sig.returnType = (some (.array .int))) (hR : 10 ≤ R.frames ∧ 400 ≤ R.locals) (hcs : cells ≤ R.cells ∧ slots ≤ R.slots) (hret : ∀ (L : List (Nat × Value)) (M : TM), K M → Wa p l e R s m args below meth c cells slots Q D tc ad 7 M 341 L [.ref (ad a4)]) : ∀ (n : Nat) (x3 : Int32) (x5 : Int32) (x6 : Int32) (M : TM) , f_L_all_L313 a4 n4 K n x3 x5 x6 M → Wa p l e R s m args below meth c cells slots Q D tc ad 7 M 313 [(0, .ref (ad 0)), (3, .int x3), (4, .ref (ad a4)), (5, .int x5), (6, .int x6)] [] := by
  intro n
  induction n with
  | zero => intro x3 x5 x6 M  h; exact h.elim
  | succ n ih =>
    intro x3 x5 x6 M  h
    unfold f_L_all_L313 at h
    refine ra_iload E dL_all_313 4 rfl ?_
    refine ra_iload_n E dL_all_315 rfl 1 rfl ?_
    refine ra_icmp_ge (tgt := 339) E dL_all_316 (by decide) (fun q21 => ?_) (fun q21 => ?_)
    · replace h := h.1 q21
      refine ra_aload E dL_all_339 2 rfl ?_
      exact hret _ _ h
    · replace h := h.2 q21
      refine ra_aload E dL_all_319 2 rfl ?_
      refine ra_iload E dL_all_321 3 rfl ?_
      refine ra_iinc1 (L' := [(5, _), (0, _), (3, _), (4, _), (6, _)]) E dL_all_323 3 rfl (by decide) rfl ?_
      refine ra_aload_n E dL_all_326 rfl 1 rfl ?_
      refine ra_iload E dL_all_327 4 rfl ?_
      refine ra_callIV (rest := [_, _]) E (c_X12_usedPairs _ _ _ h) (lq_X12 _) cv_X12_usedPairs ml_L_93 (by decide) (lm (by decide)) (fun R => ⟨_, cel_0 tc ad R⟩) rfl rfl rfl (Nat.le_of_ble_eq_true rfl) ⟨Nat.le_trans (Nat.le_of_ble_eq_true rfl) hR.1, Nat.le_trans (Nat.le_of_ble_eq_true rfl) hR.2⟩ hcs dL_all_329 (fun r23 M22 h => ?_)
      obtain ⟨g24, h⟩ := h
      refine ra_iastW E h4.2.1 (cel_keptA tc h4) g24 dL_all_332 ?_
      replace h := h _ rfl
      refine ra_iinc1 (L' := [(6, _), (5, _), (0, _), (3, _), (4, _)]) E dL_all_333 4 rfl (by decide) rfl ?_
      refine ra_goto (tgt := 313) E dL_all_336 (by decide) ?_
      exact ra_sub (L' := [(0, _), (3, _), (4, _), (5, _), (6, _)]) [2, 3, 4, 1, 0] rfl (ih _ _ _ _ h)
def f_L_all_L208 (a4 : Nat) (n4 : Nat) (K : TM → Prop) : Nat → Int32 → Int32 → Int32 → Int32 → TM → Prop
  | 0, _, _, _, _, _ => False
  | n + 1, x2, x3, x5, x6, M => ((x2 ≤ x6 → ∃ n313, f_L_all_L313 a4 n4 K n313 x3 x5 (0 : Int32) M) ∧ (¬ x2 ≤ x6 → f_X12_pullsLeft x6 M (fun r28 M27 => vp_in x5 n4 ∧ ∀ M30, M30 = u2 M27 a4 x5.toNatClampNeg r28 → f_X12_bargeOf x6 M30 (fun r32 M31 => vp_in (x5 + 1) n4 ∧ ∀ M34, M34 = u2 M31 a4 (x5 + 1).toNatClampNeg r32 → f_X12_deadline x6 M34 (fun r36 M35 => vp_in ((x5 + 1) + 1) n4 ∧ ∀ M38, M38 = u2 M35 a4 ((x5 + 1) + 1).toNatClampNeg r36 → f_X12_isOpen x6 M38 (fun r40 M39 => ((r40 = 0 → f_X12_isReady x6 M39 (fun r44 M43 => ((r44 = 0 → f_X12_isEaten x6 M43 (fun r48 M47 => ((r48 = 0 → vp_in (((x5 + 1) + 1) + 1) n4 ∧ ∀ M52, M52 = u2 M47 a4 (((x5 + 1) + 1) + 1).toNatClampNeg (3 : Int32) → f_L_all_L208 a4 n4 K n x2 x3 ((((x5 + 1) + 1) + 1) + 1) (x6 + 1) M52) ∧ (¬ r48 = 0 → vp_in (((x5 + 1) + 1) + 1) n4 ∧ ∀ M54, M54 = u2 M47 a4 (((x5 + 1) + 1) + 1).toNatClampNeg (2 : Int32) → f_L_all_L208 a4 n4 K n x2 x3 ((((x5 + 1) + 1) + 1) + 1) (x6 + 1) M54)))) ∧ (¬ r44 = 0 → vp_in (((x5 + 1) + 1) + 1) n4 ∧ ∀ M56, M56 = u2 M43 a4 (((x5 + 1) + 1) + 1).toNatClampNeg (1 : Int32) → f_L_all_L208 a4 n4 K n x2 x3 ((((x5 + 1) + 1) + 1) + 1) (x6 + 1) M56)))) ∧ (¬ r40 = 0 → vp_in (((x5 + 1) + 1) + 1) n4 ∧ ∀ M58, M58 = u2 M39 a4 (((x5 + 1) + 1) + 1).toNatClampNeg (0 : Int32) → f_L_all_L208 a4 n4 K n x2 x3 ((((x5 + 1) + 1) + 1) + 1) (x6 + 1) M58))))))))
set_option maxRecDepth 100000 in
set_option maxHeartbeats 4000000 in
theorem l_L_all_L208 {R : Room} {cells slots : Nat} {Q : State → Prop} {p : Program} {l : Launch} {e : Env} {s : State} {m : MethodId} {args : Array Value} {below : List Frame} {meth : Method} {c : Code} {D : va_G} {tc : Nat → ClassId} {ad : Nat → Nat} (a4 : Nat) (n4 : Nat) (h4 : KeptA ad a4 n4) {K : TM → Prop} (E : Ev p s m args meth c D tc ad RL cL_all 7) (hr : meth.sig.returnType = (some (.array .int))) (hR : 10 ≤ R.frames ∧ 400 ≤ R.locals) (hcs : cells ≤ R.cells ∧ slots ≤ R.slots) (hret : ∀ (L : List (Nat × Value)) (M : TM), K M → Wa p l e R s m args below meth c cells slots Q D tc ad 7 M 341 L [.ref (ad a4)]) : ∀ (n : Nat) (x2 : Int32) (x3 : Int32) (x5 : Int32) (x6 : Int32) (M : TM) , f_L_all_L208 a4 n4 K n x2 x3 x5 x6 M → Wa p l e R s m args below meth c cells slots Q D tc ad 7 M 208 [(0, .ref (ad 0)), (2, .int x2), (3, .int x3), (4, .ref (ad a4)), (5, .int x5), (6, .int x6)] [] := by
  intro n
  induction n with
  | zero => intro x2 x3 x5 x6 M  h; exact h.elim
  | succ n ih =>
    intro x2 x3 x5 x6 M  h
    unfold f_L_all_L208 at h
    refine ra_iload E dL_all_208 5 rfl ?_
    refine ra_iload_n E dL_all_210 rfl 1 rfl ?_
    refine ra_icmp_ge (tgt := 310) E dL_all_211 (by decide) (fun q20 => ?_) (fun q20 => ?_)
    · replace h := h.1 q20
      refine ra_iconst E dL_all_310 ki_0 ?_
      refine ra_istore (L' := [(6, _), (0, _), (2, _), (3, _), (4, _), (5, _)]) E dL_all_311 (by decide) rfl ?_
      obtain ⟨n26, h⟩ := h
      exact ra_sub (L' := [(0, _), (3, _), (4, _), (5, _), (6, _)]) [1, 3, 4, 5, 0] rfl (l_L_all_L313 a4 n4 h4 E hr hR hcs hret n26 _ _ _ _ h)
    · replace h := h.2 q20
      refine ra_aload E dL_all_214 3 rfl ?_
      refine ra_iload E dL_all_216 4 rfl ?_
      refine ra_iinc1 (L' := [(5, _), (0, _), (2, _), (3, _), (4, _), (6, _)]) E dL_all_218 4 rfl (by decide) rfl ?_
      refine ra_aload_n E dL_all_221 rfl 1 rfl ?_
      refine ra_iload E dL_all_222 5 rfl ?_
      refine ra_callIV (rest := [_, _]) E (c_X12_pullsLeft _ _ _ h) (lq_X12 _) cv_X12_pullsLeft ml_L_74 (by decide) (lm (by decide)) (fun R => ⟨_, cel_0 tc ad R⟩) rfl rfl rfl (Nat.le_of_ble_eq_true rfl) ⟨Nat.le_trans (Nat.le_of_ble_eq_true rfl) hR.1, Nat.le_trans (Nat.le_of_ble_eq_true rfl) hR.2⟩ hcs dL_all_224 (fun r28 M27 h => ?_)
      obtain ⟨g29, h⟩ := h
      refine ra_iastW E h4.2.1 (cel_keptA tc h4) g29 dL_all_227 ?_
      replace h := h _ rfl
      refine ra_aload E dL_all_228 4 rfl ?_
      refine ra_iload E dL_all_230 0 rfl ?_
      refine ra_iinc1 (L' := [(5, _), (0, _), (2, _), (3, _), (4, _), (6, _)]) E dL_all_232 0 rfl (by decide) rfl ?_
      refine ra_aload_n E dL_all_235 rfl 1 rfl ?_
      refine ra_iload E dL_all_236 5 rfl ?_
      refine ra_callIV (rest := [_, _]) E (c_X12_bargeOf _ _ _ h) (lq_X12 _) cv_X12_bargeOf ml_L_77 (by decide) (lm (by decide)) (fun R => ⟨_, cel_0 tc ad R⟩) rfl rfl rfl (Nat.le_of_ble_eq_true rfl) ⟨Nat.le_trans (Nat.le_of_ble_eq_true rfl) hR.1, Nat.le_trans (Nat.le_of_ble_eq_true rfl) hR.2⟩ hcs dL_all_238 (fun r32 M31 h => ?_)
      obtain ⟨g33, h⟩ := h
      refine ra_iastW E h4.2.1 (cel_keptA tc h4) g33 dL_all_241 ?_
      replace h := h _ rfl
      refine ra_aload E dL_all_242 4 rfl ?_
      refine ra_iload E dL_all_244 0 rfl ?_
      refine ra_iinc1 (L' := [(5, _), (0, _), (2, _), (3, _), (4, _), (6, _)]) E dL_all_246 0 rfl (by decide) rfl ?_
      refine ra_aload_n E dL_all_249 rfl 1 rfl ?_
      refine ra_iload E dL_all_250 5 rfl ?_
      refine ra_callIV (rest := [_, _]) E (c_X12_deadline _ _ _ h) (lq_X12 _) cv_X12_deadline ml_L_80 (by decide) (lm (by decide)) (fun R => ⟨_, cel_0 tc ad R⟩) rfl rfl rfl (Nat.le_of_ble_eq_true rfl) ⟨Nat.le_trans (Nat.le_of_ble_eq_true rfl) hR.1, Nat.le_trans (Nat.le_of_ble_eq_true rfl) hR.2⟩ hcs dL_all_252 (fun r36 M35 h => ?_)
      obtain ⟨g37, h⟩ := h
      refine ra_iastW E h4.2.1 (cel_keptA tc h4) g37 dL_all_255 ?_
      replace h := h _ rfl
      refine ra_aload E dL_all_256 4 rfl ?_
      refine ra_iload E dL_all_258 0 rfl ?_
      refine ra_iinc1 (L' := [(5, _), (0, _), (2, _), (3, _), (4, _), (6, _)]) E dL_all_260 0 rfl (by decide) rfl ?_
      refine ra_aload_n E dL_all_263 rfl 1 rfl ?_
      refine ra_iload E dL_all_264 5 rfl ?_
      refine ra_callIV (rest := [_, _]) E (c_X12_isOpen _ _ _ h) (lq_X12 _) cv_X12_isOpen ml_L_83 (by decide) (lm (by decide)) (fun R => ⟨_, cel_0 tc ad R⟩) rfl rfl rfl (Nat.le_of_ble_eq_true rfl) ⟨Nat.le_trans (Nat.le_of_ble_eq_true rfl) hR.1, Nat.le_trans (Nat.le_of_ble_eq_true rfl) hR.2⟩ hcs dL_all_266 (fun r40 M39 h => ?_)
      obtain ⟨b41, h⟩ := h
      refine ra_if_eq (tgt := 276) E dL_all_269 (by decide) (fun q42 => ?_) (fun q42 => ?_)
      · replace h := h.1 q42
        refine ra_aload_n E dL_all_276 rfl 1 rfl ?_
        refine ra_iload E dL_all_277 5 rfl ?_
        refine ra_callIV (rest := [_, _]) E (c_X12_isReady _ _ _ h) (lq_X12 _) cv_X12_isReady ml_L_87 (by decide) (lm (by decide)) (fun R => ⟨_, cel_0 tc ad R⟩) rfl rfl rfl (Nat.le_of_ble_eq_true rfl) ⟨Nat.le_trans (Nat.le_of_ble_eq_true rfl) hR.1, Nat.le_trans (Nat.le_of_ble_eq_true rfl) hR.2⟩ hcs dL_all_279 (fun r44 M43 h => ?_)
        obtain ⟨b45, h⟩ := h
        refine ra_if_eq (tgt := 289) E dL_all_282 (by decide) (fun q46 => ?_) (fun q46 => ?_)
        · replace h := h.1 q46
          refine ra_aload_n E dL_all_289 rfl 1 rfl ?_
          refine ra_iload E dL_all_290 5 rfl ?_
          refine ra_callIV (rest := [_, _]) E (c_X12_isEaten _ _ _ h) (lq_X12 _) cv_X12_isEaten ml_L_90 (by decide) (lm (by decide)) (fun R => ⟨_, cel_0 tc ad R⟩) rfl rfl rfl (Nat.le_of_ble_eq_true rfl) ⟨Nat.le_trans (Nat.le_of_ble_eq_true rfl) hR.1, Nat.le_trans (Nat.le_of_ble_eq_true rfl) hR.2⟩ hcs dL_all_292 (fun r48 M47 h => ?_)
          obtain ⟨b49, h⟩ := h
          refine ra_if_eq (tgt := 302) E dL_all_295 (by decide) (fun q50 => ?_) (fun q50 => ?_)
          · replace h := h.1 q50
            refine ra_iconst E dL_all_302 ki_3 ?_
            obtain ⟨g51, h⟩ := h
            refine ra_iastW E h4.2.1 (cel_keptA tc h4) g51 dL_all_303 ?_
            replace h := h _ rfl
            refine ra_iinc1 (L' := [(6, _), (5, _), (0, _), (2, _), (3, _), (4, _)]) E dL_all_304 5 rfl (by decide) rfl ?_
            refine ra_goto (tgt := 208) E dL_all_307 (by decide) ?_
            exact ra_sub (L' := [(0, _), (2, _), (3, _), (4, _), (5, _), (6, _)]) [2, 3, 4, 5, 1, 0] rfl (ih _ _ _ _ _ h)
          · replace h := h.2 q50
            refine ra_iconst E dL_all_298 ki_2 ?_
            refine ra_goto (tgt := 303) E dL_all_299 (by decide) ?_
            obtain ⟨g53, h⟩ := h
            refine ra_iastW E h4.2.1 (cel_keptA tc h4) g53 dL_all_303 ?_
            replace h := h _ rfl
            refine ra_iinc1 (L' := [(6, _), (5, _), (0, _), (2, _), (3, _), (4, _)]) E dL_all_304 5 rfl (by decide) rfl ?_
            refine ra_goto (tgt := 208) E dL_all_307 (by decide) ?_
            exact ra_sub (L' := [(0, _), (2, _), (3, _), (4, _), (5, _), (6, _)]) [2, 3, 4, 5, 1, 0] rfl (ih _ _ _ _ _ h)
        · replace h := h.2 q46
          refine ra_iconst E dL_all_285 ki_1 ?_
          refine ra_goto (tgt := 303) E dL_all_286 (by decide) ?_
          obtain ⟨g55, h⟩ := h
          refine ra_iastW E h4.2.1 (cel_keptA tc h4) g55 dL_all_303 ?_
          replace h := h _ rfl
          refine ra_iinc1 (L' := [(6, _), (5, _), (0, _), (2, _), (3, _), (4, _)]) E dL_all_304 5 rfl (by decide) rfl ?_
          refine ra_goto (tgt := 208) E dL_all_307 (by decide) ?_
          exact ra_sub (L' := [(0, _), (2, _), (3, _), (4, _), (5, _), (6, _)]) [2, 3, 4, 5, 1, 0] rfl (ih _ _ _ _ _ h)
      · replace h := h.2 q42
        refine ra_iconst E dL_all_272 ki_0 ?_
        refine ra_goto (tgt := 303) E dL_all_273 (by decide) ?_
        obtain ⟨g57, h⟩ := h
        refine ra_iastW E h4.2.1 (cel_keptA tc h4) g57 dL_all_303 ?_
        replace h := h _ rfl
        refine ra_iinc1 (L' := [(6, _), (5, _), (0, _), (2, _), (3, _), (4, _)]) E dL_all_304 5 rfl (by decide) rfl ?_
        refine ra_goto (tgt := 208) E dL_all_307 (by decide) ?_
        exact ra_sub (L' := [(0, _), (2, _), (3, _), (4, _), (5, _), (6, _)]) [2, 3, 4, 5, 1, 0] rfl (ih _ _ _ _ _ h)
def f_L_all_L94 (a4 : Nat) (n4 : Nat) (K : TM → Prop) : Nat → Int32 → Int32 → Int32 → Int32 → Int32 → TM → Prop
  | 0, _, _, _, _, _, _ => False
  | n + 1, x1, x2, x3, x5, x6, M => ((x1 ≤ x6 → ∃ n208, f_L_all_L208 a4 n4 K n208 x2 x3 x5 (0 : Int32) M) ∧ (¬ x1 ≤ x6 → f_X12_placeOf x6 M (fun r61 M60 => vp_in x5 n4 ∧ ∀ M63, M63 = u2 M60 a4 x5.toNatClampNeg r61 → f_X12_targetOf x6 M63 (fun r65 M64 => vp_in (x5 + 1) n4 ∧ ∀ M67, M67 = u2 M64 a4 (x5 + 1).toNatClampNeg r65 → f_X12_timeInLock x6 M67 (fun r69 M68 => vp_in ((x5 + 1) + 1) n4 ∧ ∀ M71, M71 = u2 M68 a4 ((x5 + 1) + 1).toNatClampNeg r69 → f_X12_flour x6 M71 (fun r73 M72 => vp_in (((x5 + 1) + 1) + 1) n4 ∧ ∀ M75, M75 = u2 M72 a4 (((x5 + 1) + 1) + 1).toNatClampNeg r73 → f_X12_cleanPairs x6 M75 (fun r77 M76 => vp_in ((((x5 + 1) + 1) + 1) + 1) n4 ∧ ∀ M79, M79 = u2 M76 a4 ((((x5 + 1) + 1) + 1) + 1).toNatClampNeg r77 → f_X12_dirtyPairs x6 M79 (fun r81 M80 => vp_in (((((x5 + 1) + 1) + 1) + 1) + 1) n4 ∧ ∀ M83, M83 = u2 M80 a4 (((((x5 + 1) + 1) + 1) + 1) + 1).toNatClampNeg r81 → f_X12_queuedOrder x6 (0 : Int32) M83 (fun r85 M84 => vp_in ((((((x5 + 1) + 1) + 1) + 1) + 1) + 1) n4 ∧ ∀ M87, M87 = u2 M84 a4 ((((((x5 + 1) + 1) + 1) + 1) + 1) + 1).toNatClampNeg r85 → f_L_all_L94 a4 n4 K n x1 x2 x3 (((((((x5 + 1) + 1) + 1) + 1) + 1) + 1) + 1) (x6 + 1) M87)))))))))
set_option maxRecDepth 100000 in
set_option maxHeartbeats 4000000 in
theorem l_L_all_L94 {R : Room} {cells slots : Nat} {Q : State → Prop} {p : Program} {l : Launch} {e : Env} {s : State} {m : MethodId} {args : Array Value} {below : List Frame} {meth : Method} {c : Code} {D : va_G} {tc : Nat → ClassId} {ad : Nat → Nat} (a4 : Nat) (n4 : Nat) (h4 : KeptA ad a4 n4) {K : TM → Prop} (E : Ev p s m args meth c D tc ad RL cL_all 7) (hr : meth.sig.returnType = (some (.array .int))) (hR : 10 ≤ R.frames ∧ 400 ≤ R.locals) (hcs : cells ≤ R.cells ∧ slots ≤ R.slots) (hret : ∀ (L : List (Nat × Value)) (M : TM), K M → Wa p l e R s m args below meth c cells slots Q D tc ad 7 M 341 L [.ref (ad a4)]) : ∀ (n : Nat) (x1 : Int32) (x2 : Int32) (x3 : Int32) (x5 : Int32) (x6 : Int32) (M : TM) , f_L_all_L94 a4 n4 K n x1 x2 x3 x5 x6 M → Wa p l e R s m args below meth c cells slots Q D tc ad 7 M 94 [(0, .ref (ad 0)), (1, .int x1), (2, .int x2), (3, .int x3), (4, .ref (ad a4)), (5, .int x5), (6, .int x6)] [] := by
  intro n
  induction n with
  | zero => intro x1 x2 x3 x5 x6 M  h; exact h.elim
  | succ n ih =>
    intro x1 x2 x3 x5 x6 M  h
    unfold f_L_all_L94 at h
    refine ra_iload E dL_all_94 6 rfl ?_
    refine ra_iload_n E dL_all_96 rfl 1 rfl ?_
    refine ra_icmp_ge (tgt := 205) E dL_all_97 (by decide) (fun q19 => ?_) (fun q19 => ?_)
    · replace h := h.1 q19
      refine ra_iconst E dL_all_205 ki_0 ?_
      refine ra_istore (L' := [(6, _), (0, _), (1, _), (2, _), (3, _), (4, _), (5, _)]) E dL_all_206 (by decide) rfl ?_
      obtain ⟨n59, h⟩ := h
      exact ra_sub (L' := [(0, _), (2, _), (3, _), (4, _), (5, _), (6, _)]) [1, 3, 4, 5, 6, 0] rfl (l_L_all_L208 a4 n4 h4 E hr hR hcs hret n59 _ _ _ _ _ h)
    · replace h := h.2 q19
      refine ra_aload E dL_all_100 4 rfl ?_
      refine ra_iload E dL_all_102 5 rfl ?_
      refine ra_iinc1 (L' := [(5, _), (0, _), (1, _), (2, _), (3, _), (4, _), (6, _)]) E dL_all_104 5 rfl (by decide) rfl ?_
      refine ra_aload_n E dL_all_107 rfl 1 rfl ?_
      refine ra_iload E dL_all_108 6 rfl ?_
      refine ra_callIV (rest := [_, _]) E (c_X12_placeOf _ _ _ h) (lq_X12 _) cv_X12_placeOf ml_L_51 (by decide) (lm (by decide)) (fun R => ⟨_, cel_0 tc ad R⟩) rfl rfl rfl (Nat.le_of_ble_eq_true rfl) ⟨Nat.le_trans (Nat.le_of_ble_eq_true rfl) hR.1, Nat.le_trans (Nat.le_of_ble_eq_true rfl) hR.2⟩ hcs dL_all_110 (fun r61 M60 h => ?_)
      obtain ⟨g62, h⟩ := h
      refine ra_iastW E h4.2.1 (cel_keptA tc h4) g62 dL_all_113 ?_
      replace h := h _ rfl
      refine ra_aload E dL_all_114 5 rfl ?_
      refine ra_iload E dL_all_116 0 rfl ?_
      refine ra_iinc1 (L' := [(5, _), (0, _), (1, _), (2, _), (3, _), (4, _), (6, _)]) E dL_all_118 0 rfl (by decide) rfl ?_
      refine ra_aload_n E dL_all_121 rfl 1 rfl ?_
      refine ra_iload E dL_all_122 6 rfl ?_
      refine ra_callIV (rest := [_, _]) E (c_X12_targetOf _ _ _ h) (lq_X12 _) cv_X12_targetOf ml_L_55 (by decide) (lm (by decide)) (fun R => ⟨_, cel_0 tc ad R⟩) rfl rfl rfl (Nat.le_of_ble_eq_true rfl) ⟨Nat.le_trans (Nat.le_of_ble_eq_true rfl) hR.1, Nat.le_trans (Nat.le_of_ble_eq_true rfl) hR.2⟩ hcs dL_all_124 (fun r65 M64 h => ?_)
      obtain ⟨g66, h⟩ := h
      refine ra_iastW E h4.2.1 (cel_keptA tc h4) g66 dL_all_127 ?_
      replace h := h _ rfl
      refine ra_aload E dL_all_128 5 rfl ?_
      refine ra_iload E dL_all_130 0 rfl ?_
      refine ra_iinc1 (L' := [(5, _), (0, _), (1, _), (2, _), (3, _), (4, _), (6, _)]) E dL_all_132 0 rfl (by decide) rfl ?_
      refine ra_aload_n E dL_all_135 rfl 1 rfl ?_
      refine ra_iload E dL_all_136 6 rfl ?_
      refine ra_callIV (rest := [_, _]) E (c_X12_timeInLock _ _ _ h) (lq_X12 _) cv_X12_timeInLock ml_L_58 (by decide) (lm (by decide)) (fun R => ⟨_, cel_0 tc ad R⟩) rfl rfl rfl (Nat.le_of_ble_eq_true rfl) ⟨Nat.le_trans (Nat.le_of_ble_eq_true rfl) hR.1, Nat.le_trans (Nat.le_of_ble_eq_true rfl) hR.2⟩ hcs dL_all_138 (fun r69 M68 h => ?_)
      obtain ⟨g70, h⟩ := h
      refine ra_iastW E h4.2.1 (cel_keptA tc h4) g70 dL_all_141 ?_
      replace h := h _ rfl
      refine ra_aload E dL_all_142 5 rfl ?_
      refine ra_iload E dL_all_144 0 rfl ?_
      refine ra_iinc1 (L' := [(5, _), (0, _), (1, _), (2, _), (3, _), (4, _), (6, _)]) E dL_all_146 0 rfl (by decide) rfl ?_
      refine ra_aload_n E dL_all_149 rfl 1 rfl ?_
      refine ra_iload E dL_all_150 6 rfl ?_
      refine ra_callIV (rest := [_, _]) E (c_X12_flour _ _ _ h) (lq_X12 _) cv_X12_flour ml_L_61 (by decide) (lm (by decide)) (fun R => ⟨_, cel_0 tc ad R⟩) rfl rfl rfl (Nat.le_of_ble_eq_true rfl) ⟨Nat.le_trans (Nat.le_of_ble_eq_true rfl) hR.1, Nat.le_trans (Nat.le_of_ble_eq_true rfl) hR.2⟩ hcs dL_all_152 (fun r73 M72 h => ?_)
      obtain ⟨g74, h⟩ := h
      refine ra_iastW E h4.2.1 (cel_keptA tc h4) g74 dL_all_155 ?_
      replace h := h _ rfl
      refine ra_aload E dL_all_156 5 rfl ?_
      refine ra_iload E dL_all_158 0 rfl ?_
      refine ra_iinc1 (L' := [(5, _), (0, _), (1, _), (2, _), (3, _), (4, _), (6, _)]) E dL_all_160 0 rfl (by decide) rfl ?_
      refine ra_aload_n E dL_all_163 rfl 1 rfl ?_
      refine ra_iload E dL_all_164 6 rfl ?_
      refine ra_callIV (rest := [_, _]) E (c_X12_cleanPairs _ _ _ h) (lq_X12 _) cv_X12_cleanPairs ml_L_64 (by decide) (lm (by decide)) (fun R => ⟨_, cel_0 tc ad R⟩) rfl rfl rfl (Nat.le_of_ble_eq_true rfl) ⟨Nat.le_trans (Nat.le_of_ble_eq_true rfl) hR.1, Nat.le_trans (Nat.le_of_ble_eq_true rfl) hR.2⟩ hcs dL_all_166 (fun r77 M76 h => ?_)
      obtain ⟨g78, h⟩ := h
      refine ra_iastW E h4.2.1 (cel_keptA tc h4) g78 dL_all_169 ?_
      replace h := h _ rfl
      refine ra_aload E dL_all_170 5 rfl ?_
      refine ra_iload E dL_all_172 0 rfl ?_
      refine ra_iinc1 (L' := [(5, _), (0, _), (1, _), (2, _), (3, _), (4, _), (6, _)]) E dL_all_174 0 rfl (by decide) rfl ?_
      refine ra_aload_n E dL_all_177 rfl 1 rfl ?_
      refine ra_iload E dL_all_178 6 rfl ?_
      refine ra_callIV (rest := [_, _]) E (c_X12_dirtyPairs _ _ _ h) (lq_X12 _) cv_X12_dirtyPairs ml_L_67 (by decide) (lm (by decide)) (fun R => ⟨_, cel_0 tc ad R⟩) rfl rfl rfl (Nat.le_of_ble_eq_true rfl) ⟨Nat.le_trans (Nat.le_of_ble_eq_true rfl) hR.1, Nat.le_trans (Nat.le_of_ble_eq_true rfl) hR.2⟩ hcs dL_all_180 (fun r81 M80 h => ?_)
      obtain ⟨g82, h⟩ := h
      refine ra_iastW E h4.2.1 (cel_keptA tc h4) g82 dL_all_183 ?_
      replace h := h _ rfl
      refine ra_aload E dL_all_184 5 rfl ?_
      refine ra_iload E dL_all_186 0 rfl ?_
      refine ra_iinc1 (L' := [(5, _), (0, _), (1, _), (2, _), (3, _), (4, _), (6, _)]) E dL_all_188 0 rfl (by decide) rfl ?_
      refine ra_aload_n E dL_all_191 rfl 1 rfl ?_
      refine ra_iload E dL_all_192 6 rfl ?_
      refine ra_iconst E dL_all_194 ki_0 ?_
      refine ra_callIV (rest := [_, _]) E (c_X12_queuedOrder _ _ _ _ h) (lq_X12 _) cv_X12_queuedOrder ml_L_70 (by decide) (lm (by decide)) (fun R => ⟨_, cel_0 tc ad R⟩) rfl rfl rfl (Nat.le_of_ble_eq_true rfl) ⟨Nat.le_trans (Nat.le_of_ble_eq_true rfl) hR.1, Nat.le_trans (Nat.le_of_ble_eq_true rfl) hR.2⟩ hcs dL_all_195 (fun r85 M84 h => ?_)
      obtain ⟨g86, h⟩ := h
      refine ra_iastW E h4.2.1 (cel_keptA tc h4) g86 dL_all_198 ?_
      replace h := h _ rfl
      refine ra_iinc1 (L' := [(6, _), (5, _), (0, _), (1, _), (2, _), (3, _), (4, _)]) E dL_all_199 6 rfl (by decide) rfl ?_
      refine ra_goto (tgt := 94) E dL_all_202 (by decide) ?_
      exact ra_sub (L' := [(0, _), (1, _), (2, _), (3, _), (4, _), (5, _), (6, _)]) [2, 3, 4, 5, 6, 1, 0] rfl (ih _ _ _ _ _ _ h)
def f_L_all_L31 (a4 : Nat) (n4 : Nat) (K : TM → Prop) (x1 : Int32) (x2 : Int32) (x3 : Int32) (M : TM) : Prop := f_X12_minute M (fun r2 M1 => vp_in (0 : Int32) n4 ∧ ∀ M4, M4 = u2 M1 a4 (0 : Int32).toNatClampNeg r2 → vp_in ((0 : Int32) + 1) n4 ∧ ∀ M6, M6 = u2 M4 a4 ((0 : Int32) + 1).toNatClampNeg x2 → f_X12_coins M6 (fun r8 M7 => vp_in (((0 : Int32) + 1) + 1) n4 ∧ ∀ M10, M10 = u2 M7 a4 (((0 : Int32) + 1) + 1).toNatClampNeg r8 → f_X12_eatenBowls M10 (fun r12 M11 => vp_in ((((0 : Int32) + 1) + 1) + 1) n4 ∧ ∀ M14, M14 = u2 M11 a4 ((((0 : Int32) + 1) + 1) + 1).toNatClampNeg r12 → f_X12_expiredOrders M14 (fun r16 M15 => vp_in (((((0 : Int32) + 1) + 1) + 1) + 1) n4 ∧ ∀ M18, M18 = u2 M15 a4 (((((0 : Int32) + 1) + 1) + 1) + 1).toNatClampNeg r16 → ∃ n94, f_L_all_L94 a4 n4 K n94 x1 x2 x3 ((((((0 : Int32) + 1) + 1) + 1) + 1) + 1) (0 : Int32) M18))))
set_option maxRecDepth 100000 in
set_option maxHeartbeats 4000000 in
theorem l_L_all_L31 {R : Room} {cells slots : Nat} {Q : State → Prop} {p : Program} {l : Launch} {e : Env} {s : State} {m : MethodId} {args : Array Value} {below : List Frame} {meth : Method} {c : Code} {D : va_G} {tc : Nat → ClassId} {ad : Nat → Nat} (a4 : Nat) (n4 : Nat) (h4 : KeptA ad a4 n4) {K : TM → Prop} (E : Ev p s m args meth c D tc ad RL cL_all 7) (hr : meth.sig.returnType = (some (.array .int))) (hR : 10 ≤ R.frames ∧ 400 ≤ R.locals) (hcs : cells ≤ R.cells ∧ slots ≤ R.slots) (hret : ∀ (L : List (Nat × Value)) (M : TM), K M → Wa p l e R s m args below meth c cells slots Q D tc ad 7 M 341 L [.ref (ad a4)]) : ∀ (x1 : Int32) (x2 : Int32) (x3 : Int32) (M : TM) , f_L_all_L31 a4 n4 K x1 x2 x3 M → Wa p l e R s m args below meth c cells slots Q D tc ad 7 M 31 [(0, .ref (ad 0)), (1, .int x1), (2, .int x2), (3, .int x3), (4, .ref (ad a4))] [] := by
  intro x1 x2 x3 M  h
  unfold f_L_all_L31 at h
  refine ra_iconst E dL_all_31 ki_0 ?_
  refine ra_istore (L' := [(5, _), (0, _), (1, _), (2, _), (3, _), (4, _)]) E dL_all_32 (by decide) rfl ?_
  refine ra_aload E dL_all_34 5 rfl ?_
  refine ra_iload E dL_all_36 0 rfl ?_
  refine ra_iinc1 (L' := [(5, _), (0, _), (1, _), (2, _), (3, _), (4, _)]) E dL_all_38 0 rfl (by decide) rfl ?_
  refine ra_aload_n E dL_all_41 rfl 1 rfl ?_
  refine ra_callIV (rest := [_, _]) E (c_X12_minute _ _ h) (lq_X12 _) cv_X12_minute ml_L_39 (by decide) (lm (by decide)) (fun R => ⟨_, cel_0 tc ad R⟩) rfl rfl rfl (Nat.le_of_ble_eq_true rfl) ⟨Nat.le_trans (Nat.le_of_ble_eq_true rfl) hR.1, Nat.le_trans (Nat.le_of_ble_eq_true rfl) hR.2⟩ hcs dL_all_42 (fun r2 M1 h => ?_)
  obtain ⟨g3, h⟩ := h
  refine ra_iastW E h4.2.1 (cel_keptA tc h4) g3 dL_all_45 ?_
  replace h := h _ rfl
  refine ra_aload E dL_all_46 5 rfl ?_
  refine ra_iload E dL_all_48 0 rfl ?_
  refine ra_iinc1 (L' := [(5, _), (0, _), (1, _), (2, _), (3, _), (4, _)]) E dL_all_50 0 rfl (by decide) rfl ?_
  refine ra_iload_n E dL_all_53 rfl 3 rfl ?_
  obtain ⟨g5, h⟩ := h
  refine ra_iastW E h4.2.1 (cel_keptA tc h4) g5 dL_all_54 ?_
  replace h := h _ rfl
  refine ra_aload E dL_all_55 5 rfl ?_
  refine ra_iload E dL_all_57 0 rfl ?_
  refine ra_iinc1 (L' := [(5, _), (0, _), (1, _), (2, _), (3, _), (4, _)]) E dL_all_59 0 rfl (by decide) rfl ?_
  refine ra_aload_n E dL_all_62 rfl 1 rfl ?_
  refine ra_callIV (rest := [_, _]) E (c_X12_coins _ _ h) (lq_X12 _) cv_X12_coins ml_L_42 (by decide) (lm (by decide)) (fun R => ⟨_, cel_0 tc ad R⟩) rfl rfl rfl (Nat.le_of_ble_eq_true rfl) ⟨Nat.le_trans (Nat.le_of_ble_eq_true rfl) hR.1, Nat.le_trans (Nat.le_of_ble_eq_true rfl) hR.2⟩ hcs dL_all_63 (fun r8 M7 h => ?_)
  obtain ⟨g9, h⟩ := h
  refine ra_iastW E h4.2.1 (cel_keptA tc h4) g9 dL_all_66 ?_
  replace h := h _ rfl
  refine ra_aload E dL_all_67 5 rfl ?_
  refine ra_iload E dL_all_69 0 rfl ?_
  refine ra_iinc1 (L' := [(5, _), (0, _), (1, _), (2, _), (3, _), (4, _)]) E dL_all_71 0 rfl (by decide) rfl ?_
  refine ra_aload_n E dL_all_74 rfl 1 rfl ?_
  refine ra_callIV (rest := [_, _]) E (c_X12_eatenBowls _ _ h) (lq_X12 _) cv_X12_eatenBowls ml_L_45 (by decide) (lm (by decide)) (fun R => ⟨_, cel_0 tc ad R⟩) rfl rfl rfl (Nat.le_of_ble_eq_true rfl) ⟨Nat.le_trans (Nat.le_of_ble_eq_true rfl) hR.1, Nat.le_trans (Nat.le_of_ble_eq_true rfl) hR.2⟩ hcs dL_all_75 (fun r12 M11 h => ?_)
  obtain ⟨g13, h⟩ := h
  refine ra_iastW E h4.2.1 (cel_keptA tc h4) g13 dL_all_78 ?_
  replace h := h _ rfl
  refine ra_aload E dL_all_79 5 rfl ?_
  refine ra_iload E dL_all_81 0 rfl ?_
  refine ra_iinc1 (L' := [(5, _), (0, _), (1, _), (2, _), (3, _), (4, _)]) E dL_all_83 0 rfl (by decide) rfl ?_
  refine ra_aload_n E dL_all_86 rfl 1 rfl ?_
  refine ra_callIV (rest := [_, _]) E (c_X12_expiredOrders _ _ h) (lq_X12 _) cv_X12_expiredOrders ml_L_48 (by decide) (lm (by decide)) (fun R => ⟨_, cel_0 tc ad R⟩) rfl rfl rfl (Nat.le_of_ble_eq_true rfl) ⟨Nat.le_trans (Nat.le_of_ble_eq_true rfl) hR.1, Nat.le_trans (Nat.le_of_ble_eq_true rfl) hR.2⟩ hcs dL_all_87 (fun r16 M15 h => ?_)
  obtain ⟨g17, h⟩ := h
  refine ra_iastW E h4.2.1 (cel_keptA tc h4) g17 dL_all_90 ?_
  replace h := h _ rfl
  refine ra_iconst E dL_all_91 ki_0 ?_
  refine ra_istore (L' := [(6, _), (5, _), (0, _), (1, _), (2, _), (3, _), (4, _)]) E dL_all_92 (by decide) rfl ?_
  obtain ⟨n88, h⟩ := h
  exact ra_sub (L' := [(0, _), (1, _), (2, _), (3, _), (4, _), (5, _), (6, _)]) [2, 3, 4, 5, 6, 1, 0] rfl (l_L_all_L94 a4 n4 h4 E hr hR hcs hret n88 _ _ _ _ _ _ h)
