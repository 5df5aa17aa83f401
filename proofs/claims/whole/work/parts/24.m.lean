def f_X13_readNumber (p1 : Int32) (p2 : Int32) (M : TM) (K : Int32 → TM → Prop) : Prop := f_X13_look p1 p2 M (fun r2 M1 => f_X13_advance M1 (fun M3 => K r2 M3))
set_option maxRecDepth 100000 in
set_option maxHeartbeats 4000000 in
theorem c_X13_readNumber {ad : Nat → Nat} (p1 : Int32) (p2 : Int32) (M : TM) (K : Int32 → TM → Prop) (h : f_X13_readNumber p1 p2 M K) : MI yX13_readNumber cX13_readNumber 4 (some .int) 4 ad [.ref (ad 699), .int p1, .int p2] M K := by
  refine MI_of RX13 rfl (by decide +kernel) (Nat.le_of_ble_eq_true rfl) (fun p l e s m below meth c D tc E hr => ?_)
  unfold f_X13_readNumber at h
  refine ra_aload_n E dX13_readNumber_0 rfl 0 rfl ?_
  refine ra_iload_n E dX13_readNumber_1 rfl 1 rfl ?_
  refine ra_iload_n E dX13_readNumber_2 rfl 2 rfl ?_
  refine ra_callIV (rest := []) E (c_X13_look _ _ _ _ h) lq_13 cv_X13_look ml_X13_360 (by decide) (lmM (by decide)) (fun R => ⟨_, cel_699 tc ad R⟩) rfl rfl rfl (Nat.le_of_ble_eq_true rfl) ⟨Nat.le_of_ble_eq_true rfl, Nat.le_of_ble_eq_true rfl⟩ ⟨Nat.zero_le _, Nat.zero_le _⟩ dX13_readNumber_3 (fun r2 M1 h => ?_)
  refine ra_istore_n (L' := [(3, _), (0, _), (1, _), (2, _)]) E dX13_readNumber_6 rfl (by decide) rfl ?_
  refine ra_aload_n E dX13_readNumber_7 rfl 1 rfl ?_
  refine ra_callVV (rest := []) E (c_X13_advance _ _ h) lq_13 cv_X13_advance ml_X13_353 (by decide) (lmM (by decide)) (fun R => ⟨_, cel_699 tc ad R⟩) rfl rfl rfl (Nat.le_of_ble_eq_true rfl) ⟨Nat.le_of_ble_eq_true rfl, Nat.le_of_ble_eq_true rfl⟩ ⟨Nat.zero_le _, Nat.zero_le _⟩ dX13_readNumber_8 (fun M3 h => ?_)
  refine ra_iload_n E dX13_readNumber_11 rfl 0 rfl ?_
  exact ra_iret E hr dX13_readNumber_12 h
def f_X13_errorCode  (M : TM) (K : Int32 → TM → Prop) : Prop := ∀ M1, M1 = u2 M 699 8 (0 : Int32) → K (M1 699 9) M1
set_option maxRecDepth 100000 in
set_option maxHeartbeats 4000000 in
theorem c_X13_errorCode {ad : Nat → Nat}  (M : TM) (K : Int32 → TM → Prop) (h : f_X13_errorCode  M K) : MI yX13_errorCode cX13_errorCode 1 (some .int) 0 ad [.ref (ad 699)] M K := by
  refine MI_of RX13 rfl (by decide +kernel) (Nat.le_of_ble_eq_true rfl) (fun p l e s m below meth c D tc E hr => ?_)
  unfold f_X13_errorCode at h
  refine ra_aload_n E dX13_errorCode_0 rfl 0 rfl ?_
  refine ra_iconst E dX13_errorCode_1 ki_0 ?_
  refine pf_X13_8 E lm13 fl_X13_79 dX13_errorCode_2 ?_
  replace h := h _ rfl
  refine ra_aload_n E dX13_errorCode_5 rfl 0 rfl ?_
  refine gf_X13_9 E lm13 fl_X13_363 dX13_errorCode_6 ?_
  exact ra_iret E hr dX13_errorCode_9 h
def f_X13_isFaulty  (M : TM) (K : Int32 → TM → Prop) : Prop := f_X13_finish M (fun r2 M1 => ∀ M3, M3 = u2 M1 699 9 r2 → (((M3 699 9) = 0 → K (0 : Int32) M3) ∧ (¬ (M3 699 9) = 0 → K (1 : Int32) M3)))
set_option maxRecDepth 100000 in
set_option maxHeartbeats 4000000 in
theorem c_X13_isFaulty {ad : Nat → Nat}  (M : TM) (K : Int32 → TM → Prop) (h : f_X13_isFaulty  M K) : MI yX13_isFaulty cX13_isFaulty 1 (some .boolean) 1 ad [.ref (ad 699)] M (fun r M' => (r = 0 ∨ r = 1) ∧ K r M') := by
  refine MI_of RX13 rfl (by decide +kernel) (Nat.le_of_ble_eq_true rfl) (fun p l e s m below meth c D tc E hr => ?_)
  unfold f_X13_isFaulty at h
  refine ra_aload_n E dX13_isFaulty_0 rfl 0 rfl ?_
  refine ra_aload_n E dX13_isFaulty_1 rfl 0 rfl ?_
  refine ra_callIV (rest := [_]) E (c_X13_finish _ _ h) lq_13 cv_X13_finish ml_X13_366 (by decide) (lmM (by decide)) (fun R => ⟨_, cel_699 tc ad R⟩) rfl rfl rfl (Nat.le_of_ble_eq_true rfl) ⟨Nat.le_of_ble_eq_true rfl, Nat.le_of_ble_eq_true rfl⟩ ⟨Nat.zero_le _, Nat.zero_le _⟩ dX13_isFaulty_2 (fun r2 M1 h => ?_)
  refine pf_X13_9 E lm13 fl_X13_363 dX13_isFaulty_5 ?_
  replace h := h _ rfl
  refine ra_aload_n E dX13_isFaulty_8 rfl 0 rfl ?_
  refine gf_X13_9 E lm13 fl_X13_363 dX13_isFaulty_9 ?_
  refine ra_if_eq (tgt := 19) E dX13_isFaulty_12 (by decide) (fun q4 => ?_) (fun q4 => ?_)
  · replace h := h.1 q4
    refine ra_iconst E dX13_isFaulty_19 ki_0 ?_
    exact ra_zret E hr rfl dX13_isFaulty_20 ⟨Or.inl rfl, h⟩
  · replace h := h.2 q4
    refine ra_iconst E dX13_isFaulty_15 ki_1 ?_
    refine ra_goto (tgt := 20) E dX13_isFaulty_16 (by decide) ?_
    exact ra_zret E hr rfl dX13_isFaulty_20 ⟨Or.inr rfl, h⟩
def f_X13_isLength (p1 : Int32) (M : TM) (K : Int32 → TM → Prop) : Prop := f_X13_inRange p1 (0 : Int32) (M 699 15) M (fun r2 M1 => K r2 M1)
set_option maxRecDepth 100000 in
set_option maxHeartbeats 4000000 in
theorem c_X13_isLength {ad : Nat → Nat} (p1 : Int32) (M : TM) (K : Int32 → TM → Prop) (h : f_X13_isLength p1 M K) : MI yX13_isLength cX13_isLength 2 (some .boolean) 1 ad [.ref (ad 699), .int p1] M (fun r M' => (r = 0 ∨ r = 1) ∧ K r M') := by
  refine MI_of RX13 rfl (by decide +kernel) (Nat.le_of_ble_eq_true rfl) (fun p l e s m below meth c D tc E hr => ?_)
  unfold f_X13_isLength at h
  refine ra_iload_n E dX13_isLength_0 rfl 1 rfl ?_
  refine ra_iconst E dX13_isLength_1 ki_0 ?_
  refine ra_aload_n E dX13_isLength_2 rfl 0 rfl ?_
  refine gf_X13_15 E lm13 fl_X13_299 dX13_isLength_3 ?_
  refine ra_callIS (rest := []) E (c_X13_inRange _ _ _ _ _ h) lq_13 ct_X13_inRange ml_X13_97 (by decide) rfl rfl (Nat.le_of_ble_eq_true rfl) ⟨Nat.le_of_ble_eq_true rfl, Nat.le_of_ble_eq_true rfl⟩ ⟨Nat.zero_le _, Nat.zero_le _⟩ dX13_isLength_6 (fun r2 M1 h => ?_)
  obtain ⟨b3, h⟩ := h
  exact ra_zret E hr (nz_01 b3) dX13_isLength_9 ⟨b3, h⟩
def f_X13_readSection_L42 (p1 : Int32) (K : TM → Prop) (x1 : Int32) (x2 : Int32) (z0 : Int32) (M : TM) : Prop := f_X13_check z0 (3 : Int32) M (fun M7 => f_X13_advance M7 (fun M8 => f_X13_readNumber (1 : Int32) (9 : Int32) M8 (fun r10 M9 => f_X13_expect (59 : Int32) M9 (fun M11 => ((¬ (M11 699 20) = 0 → K M11) ∧ ((M11 699 20) = 0 → vp_in (M11 699 6) 2 ∧ vp_in (x1 + x2) 377 ∧ ∀ M15, M15 = u2 M11 (700 + (M11 699 6).toNatClampNeg) (x1 + x2).toNatClampNeg r10 → K M15))))))
set_option maxRecDepth 100000 in
set_option maxHeartbeats 4000000 in
theorem l_X13_readSection_L42 {p : Program} {l : Launch} {e : Env} {s : State} {m : MethodId} {args : Array Value} {below : List Frame} {meth : Method} {c : Code} {D : va_G} {tc : Nat → ClassId} {ad : Nat → Nat} (p1 : Int32) {K : TM → Prop} (E : Ev p s m args meth c D tc ad RX13 cX13_readSection 4) (hr : meth.sig.returnType = none) : ∀ (x1 : Int32) (x2 : Int32) (z0 : Int32) (M : TM) , f_X13_readSection_L42 p1 K x1 x2 z0 M → Wa p l e (rmD 5) s m args below meth c 0 0 (MQ below (va_Qv K (EndW D tc ad) (A0 ad s.heap.size)) args s 0 0 (A0 ad s.heap.size)) D tc ad 4 M 42 [(0, .ref (ad 699)), (1, .int x1), (2, .int x2)] [.int z0, .ref (ad 699)] := by
  intro x1 x2 z0 M  h
  unfold f_X13_readSection_L42 at h
  refine ra_iconst E dX13_readSection_42 ki_3 ?_
  refine ra_callVV (rest := []) E (c_X13_check _ _ _ _ h) lq_13 cv_X13_check ml_X13_349 (by decide) (lmM (by decide)) (fun R => ⟨_, cel_699 tc ad R⟩) rfl rfl rfl (Nat.le_of_ble_eq_true rfl) ⟨Nat.le_of_ble_eq_true rfl, Nat.le_of_ble_eq_true rfl⟩ ⟨Nat.zero_le _, Nat.zero_le _⟩ dX13_readSection_43 (fun M7 h => ?_)
  refine ra_aload_n E dX13_readSection_46 rfl 0 rfl ?_
  refine ra_callVV (rest := []) E (c_X13_advance _ _ h) lq_13 cv_X13_advance ml_X13_353 (by decide) (lmM (by decide)) (fun R => ⟨_, cel_699 tc ad R⟩) rfl rfl rfl (Nat.le_of_ble_eq_true rfl) ⟨Nat.le_of_ble_eq_true rfl, Nat.le_of_ble_eq_true rfl⟩ ⟨Nat.zero_le _, Nat.zero_le _⟩ dX13_readSection_47 (fun M8 h => ?_)
  refine ra_aload_n E dX13_readSection_50 rfl 0 rfl ?_
  refine ra_iconst E dX13_readSection_51 ki_1 ?_
  refine ra_bipush E dX13_readSection_52 kb_9 ?_
  refine ra_callIV (rest := []) E (c_X13_readNumber _ _ _ _ h) lq_13 cv_X13_readNumber ml_X13_369 (by decide) (lmM (by decide)) (fun R => ⟨_, cel_699 tc ad R⟩) rfl rfl rfl (Nat.le_of_ble_eq_true rfl) ⟨Nat.le_of_ble_eq_true rfl, Nat.le_of_ble_eq_true rfl⟩ ⟨Nat.zero_le _, Nat.zero_le _⟩ dX13_readSection_54 (fun r10 M9 h => ?_)
  refine ra_istore_n (L' := [(3, _), (0, _), (1, _), (2, _)]) E dX13_readSection_57 rfl (by decide) rfl ?_
  refine ra_aload_n E dX13_readSection_58 rfl 1 rfl ?_
  refine ra_bipush E dX13_readSection_59 kb_59 ?_
  refine ra_callVV (rest := []) E (c_X13_expect _ _ _ h) lq_13 cv_X13_expect ml_X13_372 (by decide) (lmM (by decide)) (fun R => ⟨_, cel_699 tc ad R⟩) rfl rfl rfl (Nat.le_of_ble_eq_true rfl) ⟨Nat.le_of_ble_eq_true rfl, Nat.le_of_ble_eq_true rfl⟩ ⟨Nat.zero_le _, Nat.zero_le _⟩ dX13_readSection_61 (fun M11 h => ?_)
  refine ra_aload_n E dX13_readSection_64 rfl 1 rfl ?_
  refine gf_X13_20 E lm13 fl_X13_323 dX13_readSection_65 ?_
  refine ra_if_ne (tgt := 80) E dX13_readSection_68 (by decide) (fun q12 => ?_) (fun q12 => ?_)
  · replace h := h.1 q12
    exact ra_vret E hr dX13_readSection_80 h
  · replace h := h.2 q12
    refine ra_aload_n E dX13_readSection_71 rfl 1 rfl ?_
    obtain ⟨g13, h⟩ := h
    refine gf_X13_6 E lm13 fl_X13_28 dX13_readSection_72 ?_
    refine ra_iload_n E dX13_readSection_75 rfl 2 rfl ?_
    refine ra_iload_n E dX13_readSection_76 rfl 3 rfl ?_
    refine ra_iadd E dX13_readSection_77 ?_
    refine ra_iload_n E dX13_readSection_78 rfl 0 rfl ?_
    obtain ⟨g14, h⟩ := h
    refine ra_iast E (lmM (isRow_of g13).lt) (cel_row tc ad (isRow_of g13)) g14 dX13_readSection_79 ?_
    replace h := h _ rfl
    exact ra_vret E hr dX13_readSection_80 h
def f_X13_readSection_L37 (p1 : Int32) (K : TM → Prop) (x1 : Int32) (x2 : Int32) (M : TM) : Prop := f_X13_readSection_L42 p1 K x1 x2 (1 : Int32) M
set_option maxRecDepth 100000 in
set_option maxHeartbeats 4000000 in
theorem l_X13_readSection_L37 {p : Program} {l : Launch} {e : Env} {s : State} {m : MethodId} {args : Array Value} {below : List Frame} {meth : Method} {c : Code} {D : va_G} {tc : Nat → ClassId} {ad : Nat → Nat} (p1 : Int32) {K : TM → Prop} (E : Ev p s m args meth c D tc ad RX13 cX13_readSection 4) (hr : meth.sig.returnType = none) : ∀ (x1 : Int32) (x2 : Int32) (M : TM) , f_X13_readSection_L37 p1 K x1 x2 M → Wa p l e (rmD 5) s m args below meth c 0 0 (MQ below (va_Qv K (EndW D tc ad) (A0 ad s.heap.size)) args s 0 0 (A0 ad s.heap.size)) D tc ad 4 M 37 [(0, .ref (ad 699)), (1, .int x1), (2, .int x2)] [.ref (ad 699)] := by
  intro x1 x2 M  h
  unfold f_X13_readSection_L37 at h
  refine ra_iconst E dX13_readSection_37 ki_1 ?_
  refine ra_goto (tgt := 42) E dX13_readSection_38 (by decide) ?_
  exact ra_sub (L' := [(0, _), (1, _), (2, _)]) [0, 1, 2] rfl (l_X13_readSection_L42 p1 E hr _ _ _ _ h)
def f_X13_readSection (p1 : Int32) (M : TM) (K : TM → Prop) : Prop := f_X13_advance M (fun M1 => vp_in (M1 699 6) 2 ∧ vp_in (1 : Int32) 377 ∧ f_X13_look (0 : Int32) ((M1 (700 + (M1 699 6).toNatClampNeg) (1 : Int32).toNatClampNeg) - (2 : Int32)) M1 (fun r5 M4 => ((¬ (M4 699 20) = 0 → f_X13_readSection_L37 p1 K p1 r5 M4) ∧ ((M4 699 20) = 0 → vp_in (M4 699 6) 2 ∧ vp_in (p1 + r5) 377 ∧ ((¬ (M4 (700 + (M4 699 6).toNatClampNeg) (p1 + r5).toNatClampNeg) = 0 → f_X13_readSection_L42 p1 K p1 r5 (0 : Int32) M4) ∧ ((M4 (700 + (M4 699 6).toNatClampNeg) (p1 + r5).toNatClampNeg) = 0 → f_X13_readSection_L37 p1 K p1 r5 M4))))))
set_option maxRecDepth 100000 in
set_option maxHeartbeats 4000000 in
theorem c_X13_readSection {ad : Nat → Nat} (p1 : Int32) (M : TM) (K : TM → Prop) (h : f_X13_readSection p1 M K) : MV yX13_readSection cX13_readSection 4 5 ad [.ref (ad 699), .int p1] M K := by
  refine MV_of RX13 rfl (by decide +kernel) (Nat.le_of_ble_eq_true rfl) (fun p l e s m below meth c D tc E hr => ?_)
  unfold f_X13_readSection at h
  refine ra_aload_n E dX13_readSection_0 rfl 0 rfl ?_
  refine ra_callVV (rest := []) E (c_X13_advance _ _ h) lq_13 cv_X13_advance ml_X13_353 (by decide) (lmM (by decide)) (fun R => ⟨_, cel_699 tc ad R⟩) rfl rfl rfl (Nat.le_of_ble_eq_true rfl) ⟨Nat.le_of_ble_eq_true rfl, Nat.le_of_ble_eq_true rfl⟩ ⟨Nat.zero_le _, Nat.zero_le _⟩ dX13_readSection_1 (fun M1 h => ?_)
  refine ra_aload_n E dX13_readSection_4 rfl 0 rfl ?_
  refine ra_iconst E dX13_readSection_5 ki_0 ?_
  refine ra_aload_n E dX13_readSection_6 rfl 0 rfl ?_
  obtain ⟨g2, h⟩ := h
  refine gf_X13_6 E lm13 fl_X13_28 dX13_readSection_7 ?_
  refine ra_iconst E dX13_readSection_10 ki_1 ?_
  obtain ⟨g3, h⟩ := h
  refine ra_iald E (lmM (isRow_of g2).lt) (cel_row tc ad (isRow_of g2)) g3 dX13_readSection_11 ?_
  refine ra_iconst E dX13_readSection_12 ki_2 ?_
  refine ra_isub E dX13_readSection_13 ?_
  refine ra_callIV (rest := []) E (c_X13_look _ _ _ _ h) lq_13 cv_X13_look ml_X13_360 (by decide) (lmM (by decide)) (fun R => ⟨_, cel_699 tc ad R⟩) rfl rfl rfl (Nat.le_of_ble_eq_true rfl) ⟨Nat.le_of_ble_eq_true rfl, Nat.le_of_ble_eq_true rfl⟩ ⟨Nat.zero_le _, Nat.zero_le _⟩ dX13_readSection_14 (fun r5 M4 h => ?_)
  refine ra_istore_n (L' := [(2, _), (0, _), (1, _)]) E dX13_readSection_17 rfl (by decide) rfl ?_
  refine ra_aload_n E dX13_readSection_18 rfl 1 rfl ?_
  refine ra_aload_n E dX13_readSection_19 rfl 1 rfl ?_
  refine gf_X13_20 E lm13 fl_X13_323 dX13_readSection_20 ?_
  refine ra_if_ne (tgt := 37) E dX13_readSection_23 (by decide) (fun q6 => ?_) (fun q6 => ?_)
  · replace h := h.1 q6
    exact ra_sub (L' := [(0, _), (1, _), (2, _)]) [1, 2, 0] rfl (l_X13_readSection_L37 p1 E hr _ _ _ h)
  · replace h := h.2 q6
    refine ra_aload_n E dX13_readSection_26 rfl 1 rfl ?_
    obtain ⟨g16, h⟩ := h
    refine gf_X13_6 E lm13 fl_X13_28 dX13_readSection_27 ?_
    refine ra_iload_n E dX13_readSection_30 rfl 2 rfl ?_
    refine ra_iload_n E dX13_readSection_31 rfl 0 rfl ?_
    refine ra_iadd E dX13_readSection_32 ?_
    obtain ⟨g17, h⟩ := h
    refine ra_iald E (lmM (isRow_of g16).lt) (cel_row tc ad (isRow_of g16)) g17 dX13_readSection_33 ?_
    refine ra_if_ne (tgt := 41) E dX13_readSection_34 (by decide) (fun q18 => ?_) (fun q18 => ?_)
    · replace h := h.1 q18
      refine ra_iconst E dX13_readSection_41 ki_0 ?_
      exact ra_sub (L' := [(0, _), (1, _), (2, _)]) [1, 2, 0] rfl (l_X13_readSection_L42 p1 E hr _ _ _ _ h)
    · replace h := h.2 q18
      exact ra_sub (L' := [(0, _), (1, _), (2, _)]) [1, 2, 0] rfl (l_X13_readSection_L37 p1 E hr _ _ _ h)
def f_X13_readFirst (p1 : Int32) (M : TM) (K : Int32 → TM → Prop) : Prop := ((p1 = 1 → f_X13_readNumber (0 : Int32) (15 : Int32) M (fun r3 M2 => K r3 M2)) ∧ (p1 = 3 → f_X13_readNumber (0 : Int32) (29 : Int32) M (fun r5 M4 => K r5 M4)) ∧ (p1 = 7 → f_X13_readNumber (1 : Int32) (60 : Int32) M (fun r7 M6 => K r7 M6)) ∧ (¬ p1 = 1 → ¬ p1 = 3 → ¬ p1 = 7 → f_X13_readNumber (0 : Int32) (4 : Int32) M (fun r9 M8 => K r9 M8)))
set_option maxRecDepth 100000 in
set_option maxHeartbeats 4000000 in
theorem c_X13_readFirst {ad : Nat → Nat} (p1 : Int32) (M : TM) (K : Int32 → TM → Prop) (h : f_X13_readFirst p1 M K) : MI yX13_readFirst cX13_readFirst 2 (some .int) 5 ad [.ref (ad 699), .int p1] M K := by
  refine MI_of RX13 rfl (by decide +kernel) (Nat.le_of_ble_eq_true rfl) (fun p l e s m below meth c D tc E hr => ?_)
  unfold f_X13_readFirst at h
  refine ra_iload_n E dX13_readFirst_0 rfl 1 rfl ?_
  by_cases q1_0 : p1 = 1
  · replace h := h.1 q1_0
    refine ra_lookup (tgt := 36) (off := 35) E dX13_readFirst_1 (by decide) (by rw [q1_0]; decide) (by decide) ?_
    refine ra_aload_n E dX13_readFirst_36 rfl 0 rfl ?_
    refine ra_iconst E dX13_readFirst_37 ki_0 ?_
    refine ra_bipush E dX13_readFirst_38 kb_15 ?_
    refine ra_callIV (rest := []) E (c_X13_readNumber _ _ _ _ h) lq_13 cv_X13_readNumber ml_X13_369 (by decide) (lmM (by decide)) (fun R => ⟨_, cel_699 tc ad R⟩) rfl rfl rfl (Nat.le_of_ble_eq_true rfl) ⟨Nat.le_of_ble_eq_true rfl, Nat.le_of_ble_eq_true rfl⟩ ⟨Nat.zero_le _, Nat.zero_le _⟩ dX13_readFirst_40 (fun r11 M10 h => ?_)
    exact ra_iret E hr dX13_readFirst_43 h
  by_cases q1_1 : p1 = 3
  · replace h := h.2.1 q1_1
    refine ra_lookup (tgt := 44) (off := 43) E dX13_readFirst_1 (by decide) (by rw [q1_1]; decide) (by decide) ?_
    refine ra_aload_n E dX13_readFirst_44 rfl 0 rfl ?_
    refine ra_iconst E dX13_readFirst_45 ki_0 ?_
    refine ra_bipush E dX13_readFirst_46 kb_29 ?_
    refine ra_callIV (rest := []) E (c_X13_readNumber _ _ _ _ h) lq_13 cv_X13_readNumber ml_X13_369 (by decide) (lmM (by decide)) (fun R => ⟨_, cel_699 tc ad R⟩) rfl rfl rfl (Nat.le_of_ble_eq_true rfl) ⟨Nat.le_of_ble_eq_true rfl, Nat.le_of_ble_eq_true rfl⟩ ⟨Nat.zero_le _, Nat.zero_le _⟩ dX13_readFirst_48 (fun r13 M12 h => ?_)
    exact ra_iret E hr dX13_readFirst_51 h
  by_cases q1_2 : p1 = 7
  · replace h := h.2.2.1 q1_2
    refine ra_lookup (tgt := 52) (off := 51) E dX13_readFirst_1 (by decide) (by rw [q1_2]; decide) (by decide) ?_
    refine ra_aload_n E dX13_readFirst_52 rfl 0 rfl ?_
    refine ra_iconst E dX13_readFirst_53 ki_1 ?_
    refine ra_bipush E dX13_readFirst_54 kb_60 ?_
    refine ra_callIV (rest := []) E (c_X13_readNumber _ _ _ _ h) lq_13 cv_X13_readNumber ml_X13_369 (by decide) (lmM (by decide)) (fun R => ⟨_, cel_699 tc ad R⟩) rfl rfl rfl (Nat.le_of_ble_eq_true rfl) ⟨Nat.le_of_ble_eq_true rfl, Nat.le_of_ble_eq_true rfl⟩ ⟨Nat.zero_le _, Nat.zero_le _⟩ dX13_readFirst_56 (fun r15 M14 h => ?_)
    exact ra_iret E hr dX13_readFirst_59 h
  replace h := h.2.2.2 q1_0 q1_1 q1_2
  refine ra_lookup (tgt := 60) (off := 59) E dX13_readFirst_1 (by decide) (by show Op.lookupswitch.offset [(1, 35), (3, 43), (7, 51)] 59 _ = _; rw [Op.lookupswitch.offset_cons, if_neg (lk_ne q1_0 (by decide)), Op.lookupswitch.offset_cons, if_neg (lk_ne q1_1 (by decide)), Op.lookupswitch.offset_cons, if_neg (lk_ne q1_2 (by decide)), Op.lookupswitch.offset_nil]) (by decide) ?_
  refine ra_aload_n E dX13_readFirst_60 rfl 0 rfl ?_
  refine ra_iconst E dX13_readFirst_61 ki_0 ?_
  refine ra_iconst E dX13_readFirst_62 ki_4 ?_
  refine ra_callIV (rest := []) E (c_X13_readNumber _ _ _ _ h) lq_13 cv_X13_readNumber ml_X13_369 (by decide) (lmM (by decide)) (fun R => ⟨_, cel_699 tc ad R⟩) rfl rfl rfl (Nat.le_of_ble_eq_true rfl) ⟨Nat.le_of_ble_eq_true rfl, Nat.le_of_ble_eq_true rfl⟩ ⟨Nat.zero_le _, Nat.zero_le _⟩ dX13_readFirst_63 (fun r9 M8 h => ?_)
  exact ra_iret E hr dX13_readFirst_66 h
def f_X13_readSecond (p1 : Int32) (M : TM) (K : Int32 → TM → Prop) : Prop := ((p1 = 0 → f_X13_readNumber (0 : Int32) (15 : Int32) M (fun r3 M2 => K r3 M2)) ∧ (p1 = 1 → f_X13_readNumber (1 : Int32) (4 : Int32) M (fun r5 M4 => K r5 M4)) ∧ (p1 = 2 → f_X13_readNumber (0 : Int32) (29 : Int32) M (fun r7 M6 => K r7 M6)) ∧ (p1 = 3 → K (0 : Int32) M) ∧ (p1 = 4 → f_X13_readNumber (1 : Int32) (99 : Int32) M (fun r9 M8 => K r9 M8)) ∧ (¬ p1 = 0 → ¬ p1 = 1 → ¬ p1 = 2 → ¬ p1 = 3 → ¬ p1 = 4 → K (0 : Int32) M))
set_option maxRecDepth 100000 in
set_option maxHeartbeats 4000000 in
theorem c_X13_readSecond {ad : Nat → Nat} (p1 : Int32) (M : TM) (K : Int32 → TM → Prop) (h : f_X13_readSecond p1 M K) : MI yX13_readSecond cX13_readSecond 2 (some .int) 5 ad [.ref (ad 699), .int p1] M K := by
  refine MI_of RX13 rfl (by decide +kernel) (Nat.le_of_ble_eq_true rfl) (fun p l e s m below meth c D tc E hr => ?_)
  unfold f_X13_readSecond at h
  refine ra_iload_n E dX13_readSecond_0 rfl 1 rfl ?_
  by_cases q1_0 : p1 = 0
  · replace h := h.1 q1_0
    refine ra_tableIn (tgt := 36) (off := 35) E dX13_readSecond_1 (by rw [q1_0]; decide) (by rw [q1_0]; decide) (by rw [q1_0]; decide) (by decide) ?_
    refine ra_aload_n E dX13_readSecond_36 rfl 0 rfl ?_
    refine ra_iconst E dX13_readSecond_37 ki_0 ?_
    refine ra_bipush E dX13_readSecond_38 kb_15 ?_
    refine ra_callIV (rest := []) E (c_X13_readNumber _ _ _ _ h) lq_13 cv_X13_readNumber ml_X13_369 (by decide) (lmM (by decide)) (fun R => ⟨_, cel_699 tc ad R⟩) rfl rfl rfl (Nat.le_of_ble_eq_true rfl) ⟨Nat.le_of_ble_eq_true rfl, Nat.le_of_ble_eq_true rfl⟩ ⟨Nat.zero_le _, Nat.zero_le _⟩ dX13_readSecond_40 (fun r11 M10 h => ?_)
    exact ra_iret E hr dX13_readSecond_43 h
  by_cases q1_1 : p1 = 1
  · replace h := h.2.1 q1_1
    refine ra_tableIn (tgt := 44) (off := 43) E dX13_readSecond_1 (by rw [q1_1]; decide) (by rw [q1_1]; decide) (by rw [q1_1]; decide) (by decide) ?_
    refine ra_aload_n E dX13_readSecond_44 rfl 0 rfl ?_
    refine ra_iconst E dX13_readSecond_45 ki_1 ?_
    refine ra_iconst E dX13_readSecond_46 ki_4 ?_
    refine ra_callIV (rest := []) E (c_X13_readNumber _ _ _ _ h) lq_13 cv_X13_readNumber ml_X13_369 (by decide) (lmM (by decide)) (fun R => ⟨_, cel_699 tc ad R⟩) rfl rfl rfl (Nat.le_of_ble_eq_true rfl) ⟨Nat.le_of_ble_eq_true rfl, Nat.le_of_ble_eq_true rfl⟩ ⟨Nat.zero_le _, Nat.zero_le _⟩ dX13_readSecond_47 (fun r13 M12 h => ?_)
    exact ra_iret E hr dX13_readSecond_50 h
  by_cases q1_2 : p1 = 2
  · replace h := h.2.2.1 q1_2
    refine ra_tableIn (tgt := 51) (off := 50) E dX13_readSecond_1 (by rw [q1_2]; decide) (by rw [q1_2]; decide) (by rw [q1_2]; decide) (by decide) ?_
    refine ra_aload_n E dX13_readSecond_51 rfl 0 rfl ?_
    refine ra_iconst E dX13_readSecond_52 ki_0 ?_
    refine ra_bipush E dX13_readSecond_53 kb_29 ?_
    refine ra_callIV (rest := []) E (c_X13_readNumber _ _ _ _ h) lq_13 cv_X13_readNumber ml_X13_369 (by decide) (lmM (by decide)) (fun R => ⟨_, cel_699 tc ad R⟩) rfl rfl rfl (Nat.le_of_ble_eq_true rfl) ⟨Nat.le_of_ble_eq_true rfl, Nat.le_of_ble_eq_true rfl⟩ ⟨Nat.zero_le _, Nat.zero_le _⟩ dX13_readSecond_55 (fun r15 M14 h => ?_)
    exact ra_iret E hr dX13_readSecond_58 h
  by_cases q1_3 : p1 = 3
  · replace h := h.2.2.2.1 q1_3
    refine ra_tableIn (tgt := 67) (off := 66) E dX13_readSecond_1 (by rw [q1_3]; decide) (by rw [q1_3]; decide) (by rw [q1_3]; decide) (by decide) ?_
    refine ra_iconst E dX13_readSecond_67 ki_0 ?_
    exact ra_iret E hr dX13_readSecond_68 h
  by_cases q1_4 : p1 = 4
  · replace h := h.2.2.2.2.1 q1_4
    refine ra_tableIn (tgt := 59) (off := 58) E dX13_readSecond_1 (by rw [q1_4]; decide) (by rw [q1_4]; decide) (by rw [q1_4]; decide) (by decide) ?_
    refine ra_aload_n E dX13_readSecond_59 rfl 0 rfl ?_
    refine ra_iconst E dX13_readSecond_60 ki_1 ?_
    refine ra_bipush E dX13_readSecond_61 kb_99 ?_
    refine ra_callIV (rest := []) E (c_X13_readNumber _ _ _ _ h) lq_13 cv_X13_readNumber ml_X13_369 (by decide) (lmM (by decide)) (fun R => ⟨_, cel_699 tc ad R⟩) rfl rfl rfl (Nat.le_of_ble_eq_true rfl) ⟨Nat.le_of_ble_eq_true rfl, Nat.le_of_ble_eq_true rfl⟩ ⟨Nat.zero_le _, Nat.zero_le _⟩ dX13_readSecond_63 (fun r17 M16 h => ?_)
    exact ra_iret E hr dX13_readSecond_66 h
  replace h := h.2.2.2.2.2 q1_0 q1_1 q1_2 q1_3 q1_4
  refine ra_tableOut (tgt := 67) E dX13_readSecond_1 (by have := lk_ne q1_0 (by decide : (0 : Int32).toInt = 0); have := lk_ne q1_1 (by decide : (1 : Int32).toInt = 1); have := lk_ne q1_2 (by decide : (2 : Int32).toInt = 2); have := lk_ne q1_3 (by decide : (3 : Int32).toInt = 3); have := lk_ne q1_4 (by decide : (4 : Int32).toInt = 4); omega) (by decide) ?_
  refine ra_iconst E dX13_readSecond_67 ki_0 ?_
  exact ra_iret E hr dX13_readSecond_68 h
def f_X2_clear_L73 (a0 : Nat) (p1 : Int32) (K : TM → Prop) : Nat → Int32 → TM → Prop
  | 0, _, _ => False
  | n + 1, x2, M => (((16 : Int32) ≤ x2 → K M) ∧ (¬ (16 : Int32) ≤ x2 → vp_in x2 16 ∧ ∀ M13, M13 = u2 M (a0 + 2) x2.toNatClampNeg (0 : Int32) → vp_in x2 16 ∧ ∀ M15, M15 = u2 M13 (a0 + 3) x2.toNatClampNeg (0 : Int32) → f_X2_clear_L73 a0 p1 K n (x2 + 1) M15))
set_option maxRecDepth 100000 in
set_option maxHeartbeats 4000000 in
theorem l_X2_clear_L73 {p : Program} {l : Launch} {e : Env} {s : State} {m : MethodId} {args : Array Value} {below : List Frame} {meth : Method} {c : Code} {D : va_G} {tc : Nat → ClassId} {ad : Nat → Nat} (a0 : Nat) (h0 : IsCanal a0) (p1 : Int32) {K : TM → Prop} (E : Ev p s m args meth c D tc ad RX2 cX2_clear 3) (hr : meth.sig.returnType = none) : ∀ (n : Nat) (x2 : Int32) (M : TM) , f_X2_clear_L73 a0 p1 K n x2 M → Wa p l e (rmD 1) s m args below meth c 0 0 (MQ below (va_Qv K (EndW D tc ad) (A0 ad s.heap.size)) args s 0 0 (A0 ad s.heap.size)) D tc ad 3 M 73 [(0, .ref (ad a0)), (2, .int x2)] [] := by
  intro n
  induction n with
  | zero => intro x2 M  h; exact h.elim
  | succ n ih =>
    intro x2 M  h
    unfold f_X2_clear_L73 at h
    refine ra_iload_n E dX2_clear_73 rfl 1 rfl ?_
    refine ra_aload_n E dX2_clear_74 rfl 0 rfl ?_
    refine gf_X2_2 E h0 fl_X2_21 dX2_clear_75 ?_
    refine ra_alen (n := 16) (v := 16) E (lm (h0.add (by decide))) (fun R => ⟨_, (cel_used tc ad h0) R, rfl⟩) rfl (by decide) dX2_clear_78 ?_
    refine ra_icmp_ge (tgt := 102) E dX2_clear_79 (by decide) (fun q11 => ?_) (fun q11 => ?_)
    · replace h := h.1 q11
      exact ra_vret E hr dX2_clear_102 h
    · replace h := h.2 q11
      refine ra_aload_n E dX2_clear_82 rfl 0 rfl ?_
      refine gf_X2_2 E h0 fl_X2_21 dX2_clear_83 ?_
      refine ra_iload_n E dX2_clear_86 rfl 1 rfl ?_
      refine ra_iconst E dX2_clear_87 ki_0 ?_
      obtain ⟨g12, h⟩ := h
      refine ra_iast E (lm (h0.add (by decide))) (cel_used tc ad h0) g12 dX2_clear_88 ?_
      replace h := h _ rfl
      refine ra_aload_n E dX2_clear_89 rfl 0 rfl ?_
      refine gf_X2_3 E h0 fl_X2_25 dX2_clear_90 ?_
      refine ra_iload_n E dX2_clear_93 rfl 1 rfl ?_
      refine ra_iconst E dX2_clear_94 ki_0 ?_
      obtain ⟨g14, h⟩ := h
      refine ra_iast E (lm (h0.add (by decide))) (cel_eat tc ad h0) g14 dX2_clear_95 ?_
      replace h := h _ rfl
      refine ra_iinc1 (L' := [(2, _), (0, _)]) E dX2_clear_96 1 rfl (by decide) rfl ?_
      refine ra_goto (tgt := 73) E dX2_clear_99 (by decide) ?_
      exact ra_sub (L' := [(0, _), (2, _)]) [1, 0] rfl (ih _ _ h)
def f_X2_clear_L47 (a0 : Nat) (p1 : Int32) (K : TM → Prop) : Nat → Int32 → TM → Prop
  | 0, _, _ => False
  | n + 1, x2, M => (((15 : Int32) ≤ x2 → ∃ n, f_X2_clear_L73 a0 p1 K n (0 : Int32) M) ∧ (¬ (15 : Int32) ≤ x2 → vp_in x2 15 ∧ f_X9_clear (a0 + 6 + x2.toNatClampNeg) M (fun M18 => f_X2_clear_L47 a0 p1 K n (x2 + 1) M18)))
set_option maxRecDepth 100000 in
set_option maxHeartbeats 4000000 in
theorem l_X2_clear_L47 {p : Program} {l : Launch} {e : Env} {s : State} {m : MethodId} {args : Array Value} {below : List Frame} {meth : Method} {c : Code} {D : va_G} {tc : Nat → ClassId} {ad : Nat → Nat} (a0 : Nat) (h0 : IsCanal a0) (p1 : Int32) {K : TM → Prop} (E : Ev p s m args meth c D tc ad RX2 cX2_clear 3) (hr : meth.sig.returnType = none) : ∀ (n : Nat) (x2 : Int32) (M : TM) , f_X2_clear_L47 a0 p1 K n x2 M → Wa p l e (rmD 1) s m args below meth c 0 0 (MQ below (va_Qv K (EndW D tc ad) (A0 ad s.heap.size)) args s 0 0 (A0 ad s.heap.size)) D tc ad 3 M 47 [(0, .ref (ad a0)), (2, .int x2)] [] := by
  intro n
  induction n with
  | zero => intro x2 M  h; exact h.elim
  | succ n ih =>
    intro x2 M  h
    unfold f_X2_clear_L47 at h
    refine ra_iload_n E dX2_clear_47 rfl 1 rfl ?_
    refine ra_aload_n E dX2_clear_48 rfl 0 rfl ?_
    refine gf_X2_1 E h0 fl_X2_17 dX2_clear_49 ?_
    refine ra_alen (n := 15) (v := 15) E (lm (h0.add (by decide))) (fun R => ⟨_, (cel_secs tc ad h0) R, rfl⟩) rfl (by decide) dX2_clear_52 ?_
    refine ra_icmp_ge (tgt := 71) E dX2_clear_53 (by decide) (fun q10 => ?_) (fun q10 => ?_)
    · replace h := h.1 q10
      refine ra_iconst E dX2_clear_71 ki_0 ?_
      refine ra_istore_n (L' := [(2, _), (0, _)]) E dX2_clear_72 rfl (by decide) rfl ?_
      obtain ⟨n16, h⟩ := h
      exact ra_sub (L' := [(0, _), (2, _)]) [1, 0] rfl (l_X2_clear_L73 a0 h0 p1 E hr n16 _ _ h)
    · replace h := h.2 q10
      refine ra_aload_n E dX2_clear_56 rfl 0 rfl ?_
      refine gf_X2_1 E h0 fl_X2_17 dX2_clear_57 ?_
      refine ra_iload_n E dX2_clear_60 rfl 1 rfl ?_
      obtain ⟨g17, h⟩ := h
      refine ra_aald E (lm (h0.add (by decide))) (cel_secs tc ad h0) rfl g17 dX2_clear_61 ?_
      refine ra_callVV (rest := []) E (c_X9_clear _ (isSec_of h0 g17) _ _ h) (lq_X9 _) cv_X9_clear ml_X2_67 (by decide) (lm (isSec_of h0 g17).lt) (fun R => ⟨_, cel_sec tc ad (isSec_of h0 g17) R⟩) rfl rfl rfl (Nat.le_of_ble_eq_true rfl) ⟨Nat.le_of_ble_eq_true rfl, Nat.le_of_ble_eq_true rfl⟩ ⟨Nat.zero_le _, Nat.zero_le _⟩ dX2_clear_62 (fun M18 h => ?_)
      refine ra_iinc1 (L' := [(2, _), (0, _)]) E dX2_clear_65 1 rfl (by decide) rfl ?_
      refine ra_goto (tgt := 47) E dX2_clear_68 (by decide) ?_
      exact ra_sub (L' := [(0, _), (2, _)]) [1, 0] rfl (ih _ _ h)
def f_X2_clear (a0 : Nat) (p1 : Int32) (M : TM) (K : TM → Prop) : Prop := ∀ M1, M1 = u2 M a0 0 p1 → ∀ M2, M2 = u2 M1 a0 4 (0 : Int32) → ∀ M3, M3 = u2 M2 a0 6 (0 : Int32) → ∀ M4, M4 = u2 M3 a0 8 (0 : Int32) → ∀ M5, M5 = u2 M4 a0 9 (0 : Int32) → ∀ M6, M6 = u2 M5 a0 10 (0 : Int32) → ∀ M7, M7 = u2 M6 a0 11 (0 : Int32) → ∀ M8, M8 = u2 M7 a0 12 (0 : Int32) → ∀ M9, M9 = u2 M8 a0 13 (0 : Int32) → ∃ n, f_X2_clear_L47 a0 p1 K n (0 : Int32) M9
set_option maxRecDepth 100000 in
set_option maxHeartbeats 4000000 in
theorem c_X2_clear {ad : Nat → Nat} (a0 : Nat) (h0 : IsCanal a0) (p1 : Int32) (M : TM) (K : TM → Prop) (h : f_X2_clear a0 p1 M K) : MV yX2_clear cX2_clear 3 1 ad [.ref (ad a0), .int p1] M K := by
  refine MV_of RX2 rfl (by decide +kernel) (Nat.le_of_ble_eq_true rfl) (fun p l e s m below meth c D tc E hr => ?_)
  unfold f_X2_clear at h
  refine ra_aload_n E dX2_clear_0 rfl 0 rfl ?_
  refine ra_iload_n E dX2_clear_1 rfl 1 rfl ?_
  refine pf_X2_0 E h0 fl_X2_9 dX2_clear_2 ?_
  replace h := h _ rfl
  refine ra_aload_n E dX2_clear_5 rfl 0 rfl ?_
  refine ra_iconst E dX2_clear_6 ki_0 ?_
  refine pf_X2_4 E h0 fl_X2_28 dX2_clear_7 ?_
  replace h := h _ rfl
  refine ra_aload_n E dX2_clear_10 rfl 0 rfl ?_
  refine ra_iconst E dX2_clear_11 ki_0 ?_
  refine pf_X2_6 E h0 fl_X2_37 dX2_clear_12 ?_
  replace h := h _ rfl
  refine ra_aload_n E dX2_clear_15 rfl 0 rfl ?_
  refine ra_iconst E dX2_clear_16 ki_0 ?_
  refine pf_X2_8 E h0 fl_X2_46 dX2_clear_17 ?_
  replace h := h _ rfl
  refine ra_aload_n E dX2_clear_20 rfl 0 rfl ?_
  refine ra_iconst E dX2_clear_21 ki_0 ?_
  refine pf_X2_9 E h0 fl_X2_49 dX2_clear_22 ?_
  replace h := h _ rfl
  refine ra_aload_n E dX2_clear_25 rfl 0 rfl ?_
  refine ra_iconst E dX2_clear_26 ki_0 ?_
  refine pf_X2_10 E h0 fl_X2_52 dX2_clear_27 ?_
  replace h := h _ rfl
  refine ra_aload_n E dX2_clear_30 rfl 0 rfl ?_
  refine ra_iconst E dX2_clear_31 ki_0 ?_
  refine pf_X2_11 E h0 fl_X2_55 dX2_clear_32 ?_
  replace h := h _ rfl
  refine ra_aload_n E dX2_clear_35 rfl 0 rfl ?_
  refine ra_iconst E dX2_clear_36 ki_0 ?_
  refine pf_X2_12 E h0 fl_X2_58 dX2_clear_37 ?_
  replace h := h _ rfl
  refine ra_aload_n E dX2_clear_40 rfl 0 rfl ?_
  refine ra_iconst E dX2_clear_41 ki_0 ?_
  refine pf_X2_13 E h0 fl_X2_61 dX2_clear_42 ?_
  replace h := h _ rfl
  refine ra_iconst E dX2_clear_45 ki_0 ?_
  refine ra_istore_n (L' := [(2, _), (0, _), (1, _)]) E dX2_clear_46 rfl (by decide) rfl ?_
  obtain ⟨n19, h⟩ := h
  exact ra_sub (L' := [(0, _), (2, _)]) [1, 0] rfl (l_X2_clear_L47 a0 h0 p1 E hr n19 _ _ h)
def f_X2_copyFrom_L173 (a0 : Nat) (a1 : Nat) (K : TM → Prop) : Nat → Int32 → TM → Prop
  | 0, _, _ => False
  | n + 1, x2, M => (((M a0 6) ≤ x2 → K M) ∧ (¬ (M a0 6) ≤ x2 → vp_in x2 30 ∧ vp_in x2 30 ∧ f_X6_copyFrom (a0 + 31 + x2.toNatClampNeg) (a1 + 31 + x2.toNatClampNeg) M (fun M19 => f_X2_copyFrom_L173 a0 a1 K n (x2 + 1) M19)))
set_option maxRecDepth 100000 in
set_option maxHeartbeats 4000000 in
theorem l_X2_copyFrom_L173 {p : Program} {l : Launch} {e : Env} {s : State} {m : MethodId} {args : Array Value} {below : List Frame} {meth : Method} {c : Code} {D : va_G} {tc : Nat → ClassId} {ad : Nat → Nat} (a0 : Nat) (h0 : IsCanal a0) (a1 : Nat) (h1 : IsCanal a1) {K : TM → Prop} (E : Ev p s m args meth c D tc ad RX2 cX2_copyFrom 3) (hr : meth.sig.returnType = none) : ∀ (n : Nat) (x2 : Int32) (M : TM) , f_X2_copyFrom_L173 a0 a1 K n x2 M → Wa p l e (rmD 2) s m args below meth c 0 0 (MQ below (va_Qv K (EndW D tc ad) (A0 ad s.heap.size)) args s 0 0 (A0 ad s.heap.size)) D tc ad 3 M 173 [(0, .ref (ad a0)), (1, .ref (ad a1)), (2, .int x2)] [] := by
  intro n
  induction n with
  | zero => intro x2 M  h; exact h.elim
  | succ n ih =>
    intro x2 M  h
    unfold f_X2_copyFrom_L173 at h
    refine ra_iload_n E dX2_copyFrom_173 rfl 2 rfl ?_
    refine ra_aload_n E dX2_copyFrom_174 rfl 0 rfl ?_
    refine gf_X2_6 E h0 fl_X2_37 dX2_copyFrom_175 ?_
    refine ra_icmp_ge (tgt := 202) E dX2_copyFrom_178 (by decide) (fun q16 => ?_) (fun q16 => ?_)
    · replace h := h.1 q16
      exact ra_vret E hr dX2_copyFrom_202 h
    · replace h := h.2 q16
      refine ra_aload_n E dX2_copyFrom_181 rfl 0 rfl ?_
      refine gf_X2_7 E h0 fl_X2_42 dX2_copyFrom_182 ?_
      refine ra_iload_n E dX2_copyFrom_185 rfl 2 rfl ?_
      obtain ⟨g17, h⟩ := h
      refine ra_aald E (lm (h0.add (by decide))) (cel_ords tc ad h0) rfl g17 dX2_copyFrom_186 ?_
      refine ra_aload_n E dX2_copyFrom_187 rfl 1 rfl ?_
      refine gf_X2_7 E h1 fl_X2_42 dX2_copyFrom_188 ?_
      refine ra_iload_n E dX2_copyFrom_191 rfl 2 rfl ?_
      obtain ⟨g18, h⟩ := h
      refine ra_aald E (lm (h1.add (by decide))) (cel_ords tc ad h1) rfl g18 dX2_copyFrom_192 ?_
      refine ra_callVV (rest := []) E (c_X6_copyFrom _ (isOrder_of h0 g17) _ (isOrder_of h1 g18) _ _ h) (lq_X6 _) cv_X6_copyFrom ml_X2_83 (by decide) (lm (isOrder_of h0 g17).lt) (fun R => ⟨_, cel_order tc ad (isOrder_of h0 g17) R⟩) rfl rfl rfl (Nat.le_of_ble_eq_true rfl) ⟨Nat.le_of_ble_eq_true rfl, Nat.le_of_ble_eq_true rfl⟩ ⟨Nat.zero_le _, Nat.zero_le _⟩ dX2_copyFrom_193 (fun M19 h => ?_)
      refine ra_iinc1 (L' := [(2, _), (0, _), (1, _)]) E dX2_copyFrom_196 2 rfl (by decide) rfl ?_
      refine ra_goto (tgt := 173) E dX2_copyFrom_199 (by decide) ?_
      exact ra_sub (L' := [(0, _), (1, _), (2, _)]) [1, 2, 0] rfl (ih _ _ h)
def f_X2_copyFrom_L142 (a0 : Nat) (a1 : Nat) (K : TM → Prop) : Nat → Int32 → TM → Prop
  | 0, _, _ => False
  | n + 1, x2, M => (((M a0 4) ≤ x2 → ∃ n, f_X2_copyFrom_L173 a0 a1 K n (0 : Int32) M) ∧ (¬ (M a0 4) ≤ x2 → vp_in x2 5 ∧ vp_in x2 5 ∧ f_X1_copyFrom (a0 + 21 + 2 * x2.toNatClampNeg) (a1 + 21 + 2 * x2.toNatClampNeg) M (fun M23 => f_X2_copyFrom_L142 a0 a1 K n (x2 + 1) M23)))
set_option maxRecDepth 100000 in
set_option maxHeartbeats 4000000 in
theorem l_X2_copyFrom_L142 {p : Program} {l : Launch} {e : Env} {s : State} {m : MethodId} {args : Array Value} {below : List Frame} {meth : Method} {c : Code} {D : va_G} {tc : Nat → ClassId} {ad : Nat → Nat} (a0 : Nat) (h0 : IsCanal a0) (a1 : Nat) (h1 : IsCanal a1) {K : TM → Prop} (E : Ev p s m args meth c D tc ad RX2 cX2_copyFrom 3) (hr : meth.sig.returnType = none) : ∀ (n : Nat) (x2 : Int32) (M : TM) , f_X2_copyFrom_L142 a0 a1 K n x2 M → Wa p l e (rmD 2) s m args below meth c 0 0 (MQ below (va_Qv K (EndW D tc ad) (A0 ad s.heap.size)) args s 0 0 (A0 ad s.heap.size)) D tc ad 3 M 142 [(0, .ref (ad a0)), (1, .ref (ad a1)), (2, .int x2)] [] := by
  intro n
  induction n with
  | zero => intro x2 M  h; exact h.elim
  | succ n ih =>
    intro x2 M  h
    unfold f_X2_copyFrom_L142 at h
    refine ra_iload_n E dX2_copyFrom_142 rfl 2 rfl ?_
    refine ra_aload_n E dX2_copyFrom_143 rfl 0 rfl ?_
    refine gf_X2_4 E h0 fl_X2_28 dX2_copyFrom_144 ?_
    refine ra_icmp_ge (tgt := 171) E dX2_copyFrom_147 (by decide) (fun q15 => ?_) (fun q15 => ?_)
    · replace h := h.1 q15
      refine ra_iconst E dX2_copyFrom_171 ki_0 ?_
      refine ra_istore_n (L' := [(2, _), (0, _), (1, _)]) E dX2_copyFrom_172 rfl (by decide) rfl ?_
      obtain ⟨n20, h⟩ := h
      exact ra_sub (L' := [(0, _), (1, _), (2, _)]) [1, 2, 0] rfl (l_X2_copyFrom_L173 a0 h0 a1 h1 E hr n20 _ _ h)
    · replace h := h.2 q15
      refine ra_aload_n E dX2_copyFrom_150 rfl 0 rfl ?_
      refine gf_X2_5 E h0 fl_X2_33 dX2_copyFrom_151 ?_
      refine ra_iload_n E dX2_copyFrom_154 rfl 2 rfl ?_
      obtain ⟨g21, h⟩ := h
      refine ra_aald E (lm (h0.add (by decide))) (cel_bars tc ad h0) rfl g21 dX2_copyFrom_155 ?_
      refine ra_aload_n E dX2_copyFrom_156 rfl 1 rfl ?_
      refine gf_X2_5 E h1 fl_X2_33 dX2_copyFrom_157 ?_
      refine ra_iload_n E dX2_copyFrom_160 rfl 2 rfl ?_
      obtain ⟨g22, h⟩ := h
      refine ra_aald E (lm (h1.add (by decide))) (cel_bars tc ad h1) rfl g22 dX2_copyFrom_161 ?_
      refine ra_callVV (rest := []) E (c_X1_copyFrom _ (isBarge_of h0 g21) _ (isBarge_of h1 g22) _ _ h) (lq_X1 _) cv_X1_copyFrom ml_X2_80 (by decide) (lm (Nat.lt_of_succ_lt (isBarge_of h0 g21).lt)) (fun R => ⟨_, cel_barge tc ad (isBarge_of h0 g21) R⟩) rfl rfl rfl (Nat.le_of_ble_eq_true rfl) ⟨Nat.le_of_ble_eq_true rfl, Nat.le_of_ble_eq_true rfl⟩ ⟨Nat.zero_le _, Nat.zero_le _⟩ dX2_copyFrom_162 (fun M23 h => ?_)
      refine ra_iinc1 (L' := [(2, _), (0, _), (1, _)]) E dX2_copyFrom_165 2 rfl (by decide) rfl ?_
      refine ra_goto (tgt := 142) E dX2_copyFrom_168 (by decide) ?_
      exact ra_sub (L' := [(0, _), (1, _), (2, _)]) [1, 2, 0] rfl (ih _ _ h)
def f_X2_copyFrom_L74 (a0 : Nat) (a1 : Nat) (K : TM → Prop) : Nat → Int32 → TM → Prop
  | 0, _, _ => False
  | n + 1, x2, M => (((15 : Int32) ≤ x2 → (¬ (0 : Int32) < 0 ∧ ¬ (0 : Int32) < 0 ∧ ¬ (16 : Int32) < 0 ∧ (0 : Int32).toNatClampNeg + (16 : Int32).toNatClampNeg ≤ 16 ∧ (0 : Int32).toNatClampNeg + (16 : Int32).toNatClampNeg ≤ 16) ∧ ∀ M12, M12 = uR M (a0 + 2) (va_cpy (M (a1 + 2)) (M (a0 + 2)) (0 : Int32).toNatClampNeg (0 : Int32).toNatClampNeg (16 : Int32).toNatClampNeg) → (¬ (0 : Int32) < 0 ∧ ¬ (0 : Int32) < 0 ∧ ¬ (16 : Int32) < 0 ∧ (0 : Int32).toNatClampNeg + (16 : Int32).toNatClampNeg ≤ 16 ∧ (0 : Int32).toNatClampNeg + (16 : Int32).toNatClampNeg ≤ 16) ∧ ∀ M14, M14 = uR M12 (a0 + 3) (va_cpy (M12 (a1 + 3)) (M12 (a0 + 3)) (0 : Int32).toNatClampNeg (0 : Int32).toNatClampNeg (16 : Int32).toNatClampNeg) → ∃ n, f_X2_copyFrom_L142 a0 a1 K n (0 : Int32) M14) ∧ (¬ (15 : Int32) ≤ x2 → vp_in x2 15 ∧ vp_in x2 15 ∧ f_X9_copyFrom (a0 + 6 + x2.toNatClampNeg) (a1 + 6 + x2.toNatClampNeg) M (fun M27 => f_X2_copyFrom_L74 a0 a1 K n (x2 + 1) M27)))
set_option maxRecDepth 100000 in
set_option maxHeartbeats 4000000 in
theorem l_X2_copyFrom_L74 {p : Program} {l : Launch} {e : Env} {s : State} {m : MethodId} {args : Array Value} {below : List Frame} {meth : Method} {c : Code} {D : va_G} {tc : Nat → ClassId} {ad : Nat → Nat} (a0 : Nat) (h0 : IsCanal a0) (a1 : Nat) (h1 : IsCanal a1) {K : TM → Prop} (E : Ev p s m args meth c D tc ad RX2 cX2_copyFrom 3) (hr : meth.sig.returnType = none) : ∀ (n : Nat) (x2 : Int32) (M : TM) , f_X2_copyFrom_L74 a0 a1 K n x2 M → Wa p l e (rmD 2) s m args below meth c 0 0 (MQ below (va_Qv K (EndW D tc ad) (A0 ad s.heap.size)) args s 0 0 (A0 ad s.heap.size)) D tc ad 3 M 74 [(0, .ref (ad a0)), (1, .ref (ad a1)), (2, .int x2)] [] := by
  intro n
  induction n with
  | zero => intro x2 M  h; exact h.elim
  | succ n ih =>
    intro x2 M  h
    unfold f_X2_copyFrom_L74 at h
    refine ra_iload_n E dX2_copyFrom_74 rfl 2 rfl ?_
    refine ra_aload_n E dX2_copyFrom_75 rfl 0 rfl ?_
    refine gf_X2_1 E h0 fl_X2_17 dX2_copyFrom_76 ?_
    refine ra_alen (n := 15) (v := 15) E (lm (h0.add (by decide))) (fun R => ⟨_, (cel_secs tc ad h0) R, rfl⟩) rfl (by decide) dX2_copyFrom_79 ?_
    refine ra_icmp_ge (tgt := 104) E dX2_copyFrom_80 (by decide) (fun q10 => ?_) (fun q10 => ?_)
    · replace h := h.1 q10
      refine ra_aload_n E dX2_copyFrom_104 rfl 1 rfl ?_
      refine gf_X2_2 E h1 fl_X2_21 dX2_copyFrom_105 ?_
      refine ra_iconst E dX2_copyFrom_108 ki_0 ?_
      refine ra_aload_n E dX2_copyFrom_109 rfl 0 rfl ?_
      refine gf_X2_2 E h0 fl_X2_21 dX2_copyFrom_110 ?_
      refine ra_iconst E dX2_copyFrom_113 ki_0 ?_
      refine ra_aload_n E dX2_copyFrom_114 rfl 0 rfl ?_
      refine gf_X2_2 E h0 fl_X2_21 dX2_copyFrom_115 ?_
      refine ra_alen (n := 16) (v := 16) E (lm (h0.add (by decide))) (fun R => ⟨_, (cel_used tc ad h0) R, rfl⟩) rfl (by decide) dX2_copyFrom_118 ?_
      obtain ⟨g11, h⟩ := h
      refine ra_copyi E (lm (h1.add (by decide))) (cel_used tc ad h1) (lm (h0.add (by decide))) (cel_used tc ad h0) g11 ml_X2_74 ⟨Nat.le_of_ble_eq_true rfl, Nat.le_of_ble_eq_true rfl⟩ dX2_copyFrom_119 ?_
      replace h := h _ rfl
      refine ra_aload_n E dX2_copyFrom_122 rfl 1 rfl ?_
      refine gf_X2_3 E h1 fl_X2_25 dX2_copyFrom_123 ?_
      refine ra_iconst E dX2_copyFrom_126 ki_0 ?_
      refine ra_aload_n E dX2_copyFrom_127 rfl 0 rfl ?_
      refine gf_X2_3 E h0 fl_X2_25 dX2_copyFrom_128 ?_
      refine ra_iconst E dX2_copyFrom_131 ki_0 ?_
      refine ra_aload_n E dX2_copyFrom_132 rfl 0 rfl ?_
      refine gf_X2_3 E h0 fl_X2_25 dX2_copyFrom_133 ?_
      refine ra_alen (n := 16) (v := 16) E (lm (h0.add (by decide))) (fun R => ⟨_, (cel_eat tc ad h0) R, rfl⟩) rfl (by decide) dX2_copyFrom_136 ?_
      obtain ⟨g13, h⟩ := h
      refine ra_copyi E (lm (h1.add (by decide))) (cel_eat tc ad h1) (lm (h0.add (by decide))) (cel_eat tc ad h0) g13 ml_X2_74 ⟨Nat.le_of_ble_eq_true rfl, Nat.le_of_ble_eq_true rfl⟩ dX2_copyFrom_137 ?_
      replace h := h _ rfl
      refine ra_iconst E dX2_copyFrom_140 ki_0 ?_
      refine ra_istore_n (L' := [(2, _), (0, _), (1, _)]) E dX2_copyFrom_141 rfl (by decide) rfl ?_
      obtain ⟨n24, h⟩ := h
      exact ra_sub (L' := [(0, _), (1, _), (2, _)]) [1, 2, 0] rfl (l_X2_copyFrom_L142 a0 h0 a1 h1 E hr n24 _ _ h)
    · replace h := h.2 q10
      refine ra_aload_n E dX2_copyFrom_83 rfl 0 rfl ?_
      refine gf_X2_1 E h0 fl_X2_17 dX2_copyFrom_84 ?_
      refine ra_iload_n E dX2_copyFrom_87 rfl 2 rfl ?_
      obtain ⟨g25, h⟩ := h
      refine ra_aald E (lm (h0.add (by decide))) (cel_secs tc ad h0) rfl g25 dX2_copyFrom_88 ?_
      refine ra_aload_n E dX2_copyFrom_89 rfl 1 rfl ?_
      refine gf_X2_1 E h1 fl_X2_17 dX2_copyFrom_90 ?_
      refine ra_iload_n E dX2_copyFrom_93 rfl 2 rfl ?_
      obtain ⟨g26, h⟩ := h
      refine ra_aald E (lm (h1.add (by decide))) (cel_secs tc ad h1) rfl g26 dX2_copyFrom_94 ?_
      refine ra_callVV (rest := []) E (c_X9_copyFrom _ (isSec_of h0 g25) _ (isSec_of h1 g26) _ _ h) (lq_X9 _) cv_X9_copyFrom ml_X2_70 (by decide) (lm (isSec_of h0 g25).lt) (fun R => ⟨_, cel_sec tc ad (isSec_of h0 g25) R⟩) rfl rfl rfl (Nat.le_of_ble_eq_true rfl) ⟨Nat.le_of_ble_eq_true rfl, Nat.le_of_ble_eq_true rfl⟩ ⟨Nat.zero_le _, Nat.zero_le _⟩ dX2_copyFrom_95 (fun M27 h => ?_)
      refine ra_iinc1 (L' := [(2, _), (0, _), (1, _)]) E dX2_copyFrom_98 2 rfl (by decide) rfl ?_
      refine ra_goto (tgt := 74) E dX2_copyFrom_101 (by decide) ?_
      exact ra_sub (L' := [(0, _), (1, _), (2, _)]) [1, 2, 0] rfl (ih _ _ h)
def f_X2_copyFrom (a0 : Nat) (a1 : Nat) (M : TM) (K : TM → Prop) : Prop := ∀ M1, M1 = u2 M a0 0 (M a1 0) → ∀ M2, M2 = u2 M1 a0 4 (M1 a1 4) → ∀ M3, M3 = u2 M2 a0 6 (M2 a1 6) → ∀ M4, M4 = u2 M3 a0 8 (M3 a1 8) → ∀ M5, M5 = u2 M4 a0 9 (M4 a1 9) → ∀ M6, M6 = u2 M5 a0 10 (M5 a1 10) → ∀ M7, M7 = u2 M6 a0 11 (M6 a1 11) → ∀ M8, M8 = u2 M7 a0 12 (M7 a1 12) → ∀ M9, M9 = u2 M8 a0 13 (M8 a1 13) → ∃ n, f_X2_copyFrom_L74 a0 a1 K n (0 : Int32) M9
set_option maxRecDepth 100000 in
set_option maxHeartbeats 4000000 in
theorem c_X2_copyFrom {ad : Nat → Nat} (a0 : Nat) (h0 : IsCanal a0) (a1 : Nat) (h1 : IsCanal a1) (M : TM) (K : TM → Prop) (h : f_X2_copyFrom a0 a1 M K) : MV yX2_copyFrom cX2_copyFrom 3 2 ad [.ref (ad a0), .ref (ad a1)] M K := by
  refine MV_of RX2 rfl (by decide +kernel) (Nat.le_of_ble_eq_true rfl) (fun p l e s m below meth c D tc E hr => ?_)
  unfold f_X2_copyFrom at h
  refine ra_aload_n E dX2_copyFrom_0 rfl 0 rfl ?_
  refine ra_aload_n E dX2_copyFrom_1 rfl 1 rfl ?_
  refine gf_X2_0 E h1 fl_X2_9 dX2_copyFrom_2 ?_
  refine pf_X2_0 E h0 fl_X2_9 dX2_copyFrom_5 ?_
  replace h := h _ rfl
  refine ra_aload_n E dX2_copyFrom_8 rfl 0 rfl ?_
  refine ra_aload_n E dX2_copyFrom_9 rfl 1 rfl ?_
  refine gf_X2_4 E h1 fl_X2_28 dX2_copyFrom_10 ?_
  refine pf_X2_4 E h0 fl_X2_28 dX2_copyFrom_13 ?_
  replace h := h _ rfl
  refine ra_aload_n E dX2_copyFrom_16 rfl 0 rfl ?_
  refine ra_aload_n E dX2_copyFrom_17 rfl 1 rfl ?_
  refine gf_X2_6 E h1 fl_X2_37 dX2_copyFrom_18 ?_
  refine pf_X2_6 E h0 fl_X2_37 dX2_copyFrom_21 ?_
  replace h := h _ rfl
  refine ra_aload_n E dX2_copyFrom_24 rfl 0 rfl ?_
  refine ra_aload_n E dX2_copyFrom_25 rfl 1 rfl ?_
  refine gf_X2_8 E h1 fl_X2_46 dX2_copyFrom_26 ?_
  refine pf_X2_8 E h0 fl_X2_46 dX2_copyFrom_29 ?_
  replace h := h _ rfl
  refine ra_aload_n E dX2_copyFrom_32 rfl 0 rfl ?_
  refine ra_aload_n E dX2_copyFrom_33 rfl 1 rfl ?_
  refine gf_X2_9 E h1 fl_X2_49 dX2_copyFrom_34 ?_
  refine pf_X2_9 E h0 fl_X2_49 dX2_copyFrom_37 ?_
  replace h := h _ rfl
  refine ra_aload_n E dX2_copyFrom_40 rfl 0 rfl ?_
  refine ra_aload_n E dX2_copyFrom_41 rfl 1 rfl ?_
  refine gf_X2_10 E h1 fl_X2_52 dX2_copyFrom_42 ?_
  refine pf_X2_10 E h0 fl_X2_52 dX2_copyFrom_45 ?_
  replace h := h _ rfl
  refine ra_aload_n E dX2_copyFrom_48 rfl 0 rfl ?_
  refine ra_aload_n E dX2_copyFrom_49 rfl 1 rfl ?_
  refine gf_X2_11 E h1 fl_X2_55 dX2_copyFrom_50 ?_
  refine pf_X2_11 E h0 fl_X2_55 dX2_copyFrom_53 ?_
  replace h := h _ rfl
  refine ra_aload_n E dX2_copyFrom_56 rfl 0 rfl ?_
  refine ra_aload_n E dX2_copyFrom_57 rfl 1 rfl ?_
  refine gf_X2_12 E h1 fl_X2_58 dX2_copyFrom_58 ?_
  refine pf_X2_12 E h0 fl_X2_58 dX2_copyFrom_61 ?_
  replace h := h _ rfl
  refine ra_aload_n E dX2_copyFrom_64 rfl 0 rfl ?_
  refine ra_aload_n E dX2_copyFrom_65 rfl 1 rfl ?_
  refine gf_X2_13 E h1 fl_X2_61 dX2_copyFrom_66 ?_
  refine pf_X2_13 E h0 fl_X2_61 dX2_copyFrom_69 ?_
  replace h := h _ rfl
  refine ra_iconst E dX2_copyFrom_72 ki_0 ?_
  refine ra_istore_n (L' := [(2, _), (0, _), (1, _)]) E dX2_copyFrom_73 rfl (by decide) rfl ?_
  obtain ⟨n28, h⟩ := h
  exact ra_sub (L' := [(0, _), (1, _), (2, _)]) [1, 2, 0] rfl (l_X2_copyFrom_L74 a0 h0 a1 h1 E hr n28 _ _ h)
def f_X2_countOrdersAt_L4 (a0 : Nat) (p1 : Int32) (K : Int32 → TM → Prop) : Nat → Int32 → Int32 → Int32 → TM → Prop
  | 0, _, _, _, _ => False
  | n + 1, x1, x2, x3, M => (((M a0 6) ≤ x3 → K x2 M) ∧ (¬ (M a0 6) ≤ x3 → vp_in x3 30 ∧ ((¬ (M (a0 + 31 + x3.toNatClampNeg) 0) = x1 → f_X2_countOrdersAt_L4 a0 p1 K n x1 x2 (x3 + 1) M) ∧ ((M (a0 + 31 + x3.toNatClampNeg) 0) = x1 → vp_in x3 30 ∧ f_X6_canStillBeEaten (a0 + 31 + x3.toNatClampNeg) M (fun r6 M5 => ((r6 = 0 → f_X2_countOrdersAt_L4 a0 p1 K n x1 x2 (x3 + 1) M5) ∧ (¬ r6 = 0 → f_X2_countOrdersAt_L4 a0 p1 K n x1 (x2 + 1) (x3 + 1) M5)))))))
set_option maxRecDepth 100000 in
set_option maxHeartbeats 4000000 in
theorem l_X2_countOrdersAt_L4 {p : Program} {l : Launch} {e : Env} {s : State} {m : MethodId} {args : Array Value} {below : List Frame} {meth : Method} {c : Code} {D : va_G} {tc : Nat → ClassId} {ad : Nat → Nat} (a0 : Nat) (h0 : IsCanal a0) (p1 : Int32) {K : Int32 → TM → Prop} (E : Ev p s m args meth c D tc ad RX2 cX2_countOrdersAt 4) (hr : meth.sig.returnType = (some .int)) : ∀ (n : Nat) (x1 : Int32) (x2 : Int32) (x3 : Int32) (M : TM) , f_X2_countOrdersAt_L4 a0 p1 K n x1 x2 x3 M → Wa p l e (rmD 2) s m args below meth c 0 0 (MQ below (va_Qi K (EndW D tc ad) (A0 ad s.heap.size)) args s 0 0 (A0 ad s.heap.size)) D tc ad 4 M 4 [(0, .ref (ad a0)), (1, .int x1), (2, .int x2), (3, .int x3)] [] := by
  intro n
  induction n with
  | zero => intro x1 x2 x3 M  h; exact h.elim
  | succ n ih =>
    intro x1 x2 x3 M  h
    unfold f_X2_countOrdersAt_L4 at h
    refine ra_iload_n E dX2_countOrdersAt_4 rfl 3 rfl ?_
    refine ra_aload_n E dX2_countOrdersAt_5 rfl 0 rfl ?_
    refine gf_X2_6 E h0 fl_X2_37 dX2_countOrdersAt_6 ?_
    refine ra_icmp_ge (tgt := 46) E dX2_countOrdersAt_9 (by decide) (fun q1 => ?_) (fun q1 => ?_)
    · replace h := h.1 q1
      refine ra_iload_n E dX2_countOrdersAt_46 rfl 2 rfl ?_
      exact ra_iret E hr dX2_countOrdersAt_47 h
    · replace h := h.2 q1
      refine ra_aload_n E dX2_countOrdersAt_12 rfl 0 rfl ?_
      refine gf_X2_7 E h0 fl_X2_42 dX2_countOrdersAt_13 ?_
      refine ra_iload_n E dX2_countOrdersAt_16 rfl 3 rfl ?_
      obtain ⟨g2, h⟩ := h
      refine ra_aald E (lm (h0.add (by decide))) (cel_ords tc ad h0) rfl g2 dX2_countOrdersAt_17 ?_
      refine gf_X6_0 E (isOrder_of h0 g2) fl_X2_105 dX2_countOrdersAt_18 ?_
      refine ra_iload_n E dX2_countOrdersAt_21 rfl 1 rfl ?_
      refine ra_icmp_ne (tgt := 40) E dX2_countOrdersAt_22 (by decide) (fun q3 => ?_) (fun q3 => ?_)
      · replace h := h.1 q3
        refine ra_iinc1 (L' := [(3, _), (0, _), (1, _), (2, _)]) E dX2_countOrdersAt_40 3 rfl (by decide) rfl ?_
        refine ra_goto (tgt := 4) E dX2_countOrdersAt_43 (by decide) ?_
        exact ra_sub (L' := [(0, _), (1, _), (2, _), (3, _)]) [1, 2, 3, 0] rfl (ih _ _ _ _ h)
      · replace h := h.2 q3
        refine ra_aload_n E dX2_countOrdersAt_25 rfl 0 rfl ?_
        refine gf_X2_7 E h0 fl_X2_42 dX2_countOrdersAt_26 ?_
        refine ra_iload_n E dX2_countOrdersAt_29 rfl 3 rfl ?_
        obtain ⟨g4, h⟩ := h
        refine ra_aald E (lm (h0.add (by decide))) (cel_ords tc ad h0) rfl g4 dX2_countOrdersAt_30 ?_
        refine ra_callIV (rest := []) E (c_X6_canStillBeEaten _ (isOrder_of h0 g4) _ _ h) (lq_X6 _) cv_X6_canStillBeEaten ml_X2_106 (by decide) (lm (isOrder_of h0 g4).lt) (fun R => ⟨_, cel_order tc ad (isOrder_of h0 g4) R⟩) rfl rfl rfl (Nat.le_of_ble_eq_true rfl) ⟨Nat.le_of_ble_eq_true rfl, Nat.le_of_ble_eq_true rfl⟩ ⟨Nat.zero_le _, Nat.zero_le _⟩ dX2_countOrdersAt_31 (fun r6 M5 h => ?_)
        obtain ⟨b7, h⟩ := h
        refine ra_if_eq (tgt := 40) E dX2_countOrdersAt_34 (by decide) (fun q8 => ?_) (fun q8 => ?_)
        · replace h := h.1 q8
          refine ra_iinc1 (L' := [(3, _), (0, _), (1, _), (2, _)]) E dX2_countOrdersAt_40 3 rfl (by decide) rfl ?_
          refine ra_goto (tgt := 4) E dX2_countOrdersAt_43 (by decide) ?_
          exact ra_sub (L' := [(0, _), (1, _), (2, _), (3, _)]) [1, 2, 3, 0] rfl (ih _ _ _ _ h)
        · replace h := h.2 q8
          refine ra_iinc1 (L' := [(2, _), (0, _), (1, _), (3, _)]) E dX2_countOrdersAt_37 2 rfl (by decide) rfl ?_
          refine ra_iinc1 (L' := [(3, _), (2, _), (0, _), (1, _)]) E dX2_countOrdersAt_40 3 rfl (by decide) rfl ?_
          refine ra_goto (tgt := 4) E dX2_countOrdersAt_43 (by decide) ?_
          exact ra_sub (L' := [(0, _), (1, _), (2, _), (3, _)]) [2, 3, 1, 0] rfl (ih _ _ _ _ h)
def f_X2_countOrdersAt (a0 : Nat) (p1 : Int32) (M : TM) (K : Int32 → TM → Prop) : Prop := ∃ n, f_X2_countOrdersAt_L4 a0 p1 K n p1 (0 : Int32) (0 : Int32) M
set_option maxRecDepth 100000 in
set_option maxHeartbeats 4000000 in
theorem c_X2_countOrdersAt {ad : Nat → Nat} (a0 : Nat) (h0 : IsCanal a0) (p1 : Int32) (M : TM) (K : Int32 → TM → Prop) (h : f_X2_countOrdersAt a0 p1 M K) : MI yX2_countOrdersAt cX2_countOrdersAt 4 (some .int) 2 ad [.ref (ad a0), .int p1] M K := by
  refine MI_of RX2 rfl (by decide +kernel) (Nat.le_of_ble_eq_true rfl) (fun p l e s m below meth c D tc E hr => ?_)
  unfold f_X2_countOrdersAt at h
  refine ra_iconst E dX2_countOrdersAt_0 ki_0 ?_
  refine ra_istore_n (L' := [(2, _), (0, _), (1, _)]) E dX2_countOrdersAt_1 rfl (by decide) rfl ?_
  refine ra_iconst E dX2_countOrdersAt_2 ki_0 ?_
  refine ra_istore_n (L' := [(3, _), (2, _), (0, _), (1, _)]) E dX2_countOrdersAt_3 rfl (by decide) rfl ?_
  obtain ⟨n9, h⟩ := h
  exact ra_sub (L' := [(0, _), (1, _), (2, _), (3, _)]) [2, 3, 1, 0] rfl (l_X2_countOrdersAt_L4 a0 h0 p1 E hr n9 _ _ _ _ h)
def f_X2_countHeldBy_L4 (a0 : Nat) (p1 : Int32) (K : Int32 → TM → Prop) : Nat → Int32 → Int32 → Int32 → TM → Prop
  | 0, _, _, _, _ => False
  | n + 1, x1, x2, x3, M => (((M a0 6) ≤ x3 → K x2 M) ∧ (¬ (M a0 6) ≤ x3 → vp_in x3 30 ∧ ((¬ (M (a0 + 31 + x3.toNatClampNeg) 7) = x1 → f_X2_countHeldBy_L4 a0 p1 K n x1 x2 (x3 + 1) M) ∧ ((M (a0 + 31 + x3.toNatClampNeg) 7) = x1 → vp_in x3 30 ∧ f_X6_isHeld (a0 + 31 + x3.toNatClampNeg) M (fun r6 M5 => ((r6 = 0 → f_X2_countHeldBy_L4 a0 p1 K n x1 x2 (x3 + 1) M5) ∧ (¬ r6 = 0 → f_X2_countHeldBy_L4 a0 p1 K n x1 (x2 + 1) (x3 + 1) M5)))))))
set_option maxRecDepth 100000 in
set_option maxHeartbeats 4000000 in
theorem l_X2_countHeldBy_L4 {p : Program} {l : Launch} {e : Env} {s : State} {m : MethodId} {args : Array Value} {below : List Frame} {meth : Method} {c : Code} {D : va_G} {tc : Nat → ClassId} {ad : Nat → Nat} (a0 : Nat) (h0 : IsCanal a0) (p1 : Int32) {K : Int32 → TM → Prop} (E : Ev p s m args meth c D tc ad RX2 cX2_countHeldBy 4) (hr : meth.sig.returnType = (some .int)) : ∀ (n : Nat) (x1 : Int32) (x2 : Int32) (x3 : Int32) (M : TM) , f_X2_countHeldBy_L4 a0 p1 K n x1 x2 x3 M → Wa p l e (rmD 1) s m args below meth c 0 0 (MQ below (va_Qi K (EndW D tc ad) (A0 ad s.heap.size)) args s 0 0 (A0 ad s.heap.size)) D tc ad 4 M 4 [(0, .ref (ad a0)), (1, .int x1), (2, .int x2), (3, .int x3)] [] := by
  intro n
  induction n with
  | zero => intro x1 x2 x3 M  h; exact h.elim
  | succ n ih =>
    intro x1 x2 x3 M  h
    unfold f_X2_countHeldBy_L4 at h
    refine ra_iload_n E dX2_countHeldBy_4 rfl 3 rfl ?_
    refine ra_aload_n E dX2_countHeldBy_5 rfl 0 rfl ?_
    refine gf_X2_6 E h0 fl_X2_37 dX2_countHeldBy_6 ?_
    refine ra_icmp_ge (tgt := 46) E dX2_countHeldBy_9 (by decide) (fun q1 => ?_) (fun q1 => ?_)
    · replace h := h.1 q1
      refine ra_iload_n E dX2_countHeldBy_46 rfl 2 rfl ?_
      exact ra_iret E hr dX2_countHeldBy_47 h
    · replace h := h.2 q1
      refine ra_aload_n E dX2_countHeldBy_12 rfl 0 rfl ?_
      refine gf_X2_7 E h0 fl_X2_42 dX2_countHeldBy_13 ?_
      refine ra_iload_n E dX2_countHeldBy_16 rfl 3 rfl ?_
      obtain ⟨g2, h⟩ := h
      refine ra_aald E (lm (h0.add (by decide))) (cel_ords tc ad h0) rfl g2 dX2_countHeldBy_17 ?_
      refine gf_X6_7 E (isOrder_of h0 g2) fl_X2_109 dX2_countHeldBy_18 ?_
      refine ra_iload_n E dX2_countHeldBy_21 rfl 1 rfl ?_
      refine ra_icmp_ne (tgt := 40) E dX2_countHeldBy_22 (by decide) (fun q3 => ?_) (fun q3 => ?_)
      · replace h := h.1 q3
        refine ra_iinc1 (L' := [(3, _), (0, _), (1, _), (2, _)]) E dX2_countHeldBy_40 3 rfl (by decide) rfl ?_
        refine ra_goto (tgt := 4) E dX2_countHeldBy_43 (by decide) ?_
        exact ra_sub (L' := [(0, _), (1, _), (2, _), (3, _)]) [1, 2, 3, 0] rfl (ih _ _ _ _ h)
      · replace h := h.2 q3
        refine ra_aload_n E dX2_countHeldBy_25 rfl 0 rfl ?_
        refine gf_X2_7 E h0 fl_X2_42 dX2_countHeldBy_26 ?_
        refine ra_iload_n E dX2_countHeldBy_29 rfl 3 rfl ?_
        obtain ⟨g4, h⟩ := h
        refine ra_aald E (lm (h0.add (by decide))) (cel_ords tc ad h0) rfl g4 dX2_countHeldBy_30 ?_
        refine ra_callIV (rest := []) E (c_X6_isHeld _ (isOrder_of h0 g4) _ _ h) (lq_X6 _) cv_X6_isHeld ml_X2_112 (by decide) (lm (isOrder_of h0 g4).lt) (fun R => ⟨_, cel_order tc ad (isOrder_of h0 g4) R⟩) rfl rfl rfl (Nat.le_of_ble_eq_true rfl) ⟨Nat.le_of_ble_eq_true rfl, Nat.le_of_ble_eq_true rfl⟩ ⟨Nat.zero_le _, Nat.zero_le _⟩ dX2_countHeldBy_31 (fun r6 M5 h => ?_)
        obtain ⟨b7, h⟩ := h
        refine ra_if_eq (tgt := 40) E dX2_countHeldBy_34 (by decide) (fun q8 => ?_) (fun q8 => ?_)
        · replace h := h.1 q8
          refine ra_iinc1 (L' := [(3, _), (0, _), (1, _), (2, _)]) E dX2_countHeldBy_40 3 rfl (by decide) rfl ?_
          refine ra_goto (tgt := 4) E dX2_countHeldBy_43 (by decide) ?_
          exact ra_sub (L' := [(0, _), (1, _), (2, _), (3, _)]) [1, 2, 3, 0] rfl (ih _ _ _ _ h)
        · replace h := h.2 q8
          refine ra_iinc1 (L' := [(2, _), (0, _), (1, _), (3, _)]) E dX2_countHeldBy_37 2 rfl (by decide) rfl ?_
          refine ra_iinc1 (L' := [(3, _), (2, _), (0, _), (1, _)]) E dX2_countHeldBy_40 3 rfl (by decide) rfl ?_
          refine ra_goto (tgt := 4) E dX2_countHeldBy_43 (by decide) ?_
          exact ra_sub (L' := [(0, _), (1, _), (2, _), (3, _)]) [2, 3, 1, 0] rfl (ih _ _ _ _ h)
def f_X2_countHeldBy (a0 : Nat) (p1 : Int32) (M : TM) (K : Int32 → TM → Prop) : Prop := ∃ n, f_X2_countHeldBy_L4 a0 p1 K n p1 (0 : Int32) (0 : Int32) M
set_option maxRecDepth 100000 in
set_option maxHeartbeats 4000000 in
theorem c_X2_countHeldBy {ad : Nat → Nat} (a0 : Nat) (h0 : IsCanal a0) (p1 : Int32) (M : TM) (K : Int32 → TM → Prop) (h : f_X2_countHeldBy a0 p1 M K) : MI yX2_countHeldBy cX2_countHeldBy 4 (some .int) 1 ad [.ref (ad a0), .int p1] M K := by
  refine MI_of RX2 rfl (by decide +kernel) (Nat.le_of_ble_eq_true rfl) (fun p l e s m below meth c D tc E hr => ?_)
  unfold f_X2_countHeldBy at h
  refine ra_iconst E dX2_countHeldBy_0 ki_0 ?_
  refine ra_istore_n (L' := [(2, _), (0, _), (1, _)]) E dX2_countHeldBy_1 rfl (by decide) rfl ?_
  refine ra_iconst E dX2_countHeldBy_2 ki_0 ?_
  refine ra_istore_n (L' := [(3, _), (2, _), (0, _), (1, _)]) E dX2_countHeldBy_3 rfl (by decide) rfl ?_
  obtain ⟨n9, h⟩ := h
  exact ra_sub (L' := [(0, _), (1, _), (2, _), (3, _)]) [2, 3, 1, 0] rfl (l_X2_countHeldBy_L4 a0 h0 p1 E hr n9 _ _ _ _ h)
def f_X2_obstacleFor (a0 : Nat) (p1 : Int32) (p2 : Int32) (M : TM) (K : Int32 → TM → Prop) : Prop := f_X2_hasBarge a0 p1 M (fun r2 M1 => ((r2 = 0 → K (1 : Int32) M1) ∧ (¬ r2 = 0 → vp_in p1 5 ∧ f_X1_isInLock (a0 + 21 + 2 * p1.toNatClampNeg) M1 (fun r7 M6 => ((r7 = 0 → vp_in p1 5 ∧ ((¬ (M6 (a0 + 21 + 2 * p1.toNatClampNeg) 1) = p2 → vp_in p1 5 ∧ f_X2_fitsUnderBridges a0 (a0 + 21 + 2 * p1.toNatClampNeg) p2 M6 (fun r14 M13 => ((r14 = 0 → K (3 : Int32) M13) ∧ (¬ r14 = 0 → K (0 : Int32) M13)))) ∧ ((M6 (a0 + 21 + 2 * p1.toNatClampNeg) 1) = p2 → K (2 : Int32) M6))) ∧ (¬ r7 = 0 → K (1 : Int32) M6))))))
set_option maxRecDepth 100000 in
set_option maxHeartbeats 4000000 in
theorem c_X2_obstacleFor {ad : Nat → Nat} (a0 : Nat) (h0 : IsCanal a0) (p1 : Int32) (p2 : Int32) (M : TM) (K : Int32 → TM → Prop) (h : f_X2_obstacleFor a0 p1 p2 M K) : MI yX2_obstacleFor cX2_obstacleFor 3 (some .int) 2 ad [.ref (ad a0), .int p1, .int p2] M K := by
  refine MI_of RX2 rfl (by decide +kernel) (Nat.le_of_ble_eq_true rfl) (fun p l e s m below meth c D tc E hr => ?_)
  unfold f_X2_obstacleFor at h
  refine ra_aload_n E dX2_obstacleFor_0 rfl 0 rfl ?_
  refine ra_iload_n E dX2_obstacleFor_1 rfl 1 rfl ?_
  refine ra_callIV (rest := []) E (c_X2_hasBarge _ h0 _ _ _ h) (lq_X2 _) cv_X2_hasBarge ml_X2_162 (by decide) (lm (h0.add (j := 0) (by decide))) (fun R => ⟨_, cel_canal tc ad h0 R⟩) rfl rfl rfl (Nat.le_of_ble_eq_true rfl) ⟨Nat.le_of_ble_eq_true rfl, Nat.le_of_ble_eq_true rfl⟩ ⟨Nat.zero_le _, Nat.zero_le _⟩ dX2_obstacleFor_2 (fun r2 M1 h => ?_)
  obtain ⟨b3, h⟩ := h
  refine ra_if_eq (tgt := 20) E dX2_obstacleFor_5 (by decide) (fun q4 => ?_) (fun q4 => ?_)
  · replace h := h.1 q4
    refine ra_iconst E dX2_obstacleFor_20 ki_1 ?_
    exact ra_iret E hr dX2_obstacleFor_21 h
  · replace h := h.2 q4
    refine ra_aload_n E dX2_obstacleFor_8 rfl 0 rfl ?_
    refine gf_X2_5 E h0 fl_X2_33 dX2_obstacleFor_9 ?_
    refine ra_iload_n E dX2_obstacleFor_12 rfl 1 rfl ?_
    obtain ⟨g5, h⟩ := h
    refine ra_aald E (lm (h0.add (by decide))) (cel_bars tc ad h0) rfl g5 dX2_obstacleFor_13 ?_
    refine ra_callIV (rest := []) E (c_X1_isInLock _ (isBarge_of h0 g5) _ _ h) (lq_X1 _) cv_X1_isInLock ml_X2_101 (by decide) (lm (Nat.lt_of_succ_lt (isBarge_of h0 g5).lt)) (fun R => ⟨_, cel_barge tc ad (isBarge_of h0 g5) R⟩) rfl rfl rfl (Nat.le_of_ble_eq_true rfl) ⟨Nat.le_of_ble_eq_true rfl, Nat.le_of_ble_eq_true rfl⟩ ⟨Nat.zero_le _, Nat.zero_le _⟩ dX2_obstacleFor_14 (fun r7 M6 h => ?_)
    obtain ⟨b8, h⟩ := h
    refine ra_if_eq (tgt := 22) E dX2_obstacleFor_17 (by decide) (fun q9 => ?_) (fun q9 => ?_)
    · replace h := h.1 q9
      refine ra_aload_n E dX2_obstacleFor_22 rfl 0 rfl ?_
      refine gf_X2_5 E h0 fl_X2_33 dX2_obstacleFor_23 ?_
      refine ra_iload_n E dX2_obstacleFor_26 rfl 1 rfl ?_
      obtain ⟨g10, h⟩ := h
      refine ra_aald E (lm (h0.add (by decide))) (cel_bars tc ad h0) rfl g10 dX2_obstacleFor_27 ?_
      refine gf_X1_1 E (isBarge_of h0 g10) fl_X2_168 dX2_obstacleFor_28 ?_
      refine ra_iload_n E dX2_obstacleFor_31 rfl 2 rfl ?_
      refine ra_icmp_ne (tgt := 37) E dX2_obstacleFor_32 (by decide) (fun q11 => ?_) (fun q11 => ?_)
      · replace h := h.1 q11
        refine ra_aload_n E dX2_obstacleFor_37 rfl 0 rfl ?_
        refine ra_aload_n E dX2_obstacleFor_38 rfl 0 rfl ?_
        refine gf_X2_5 E h0 fl_X2_33 dX2_obstacleFor_39 ?_
        refine ra_iload_n E dX2_obstacleFor_42 rfl 1 rfl ?_
        obtain ⟨g12, h⟩ := h
        refine ra_aald E (lm (h0.add (by decide))) (cel_bars tc ad h0) rfl g12 dX2_obstacleFor_43 ?_
        refine ra_iload_n E dX2_obstacleFor_44 rfl 2 rfl ?_
        refine ra_callIV (rest := []) E (c_X2_fitsUnderBridges _ h0 _ (isBarge_of h0 g12) _ _ _ h) (lq_X2 _) cv_X2_fitsUnderBridges ml_X2_171 (by decide) (lm (h0.add (j := 0) (by decide))) (fun R => ⟨_, cel_canal tc ad h0 R⟩) rfl rfl rfl (Nat.le_of_ble_eq_true rfl) ⟨Nat.le_of_ble_eq_true rfl, Nat.le_of_ble_eq_true rfl⟩ ⟨Nat.zero_le _, Nat.zero_le _⟩ dX2_obstacleFor_45 (fun r14 M13 h => ?_)
        obtain ⟨b15, h⟩ := h
        refine ra_if_eq (tgt := 55) E dX2_obstacleFor_48 (by decide) (fun q16 => ?_) (fun q16 => ?_)
        · replace h := h.1 q16
          refine ra_iconst E dX2_obstacleFor_55 ki_3 ?_
          exact ra_iret E hr dX2_obstacleFor_56 h
        · replace h := h.2 q16
          refine ra_iconst E dX2_obstacleFor_51 ki_0 ?_
          refine ra_goto (tgt := 56) E dX2_obstacleFor_52 (by decide) ?_
          exact ra_iret E hr dX2_obstacleFor_56 h
      · replace h := h.2 q11
        refine ra_iconst E dX2_obstacleFor_35 ki_2 ?_
        exact ra_iret E hr dX2_obstacleFor_36 h
    · replace h := h.2 q9
      refine ra_iconst E dX2_obstacleFor_20 ki_1 ?_
      exact ra_iret E hr dX2_obstacleFor_21 h
def f_X2_canSail (a0 : Nat) (p1 : Int32) (p2 : Int32) (M : TM) (K : Int32 → TM → Prop) : Prop := f_X2_hasBarge a0 p1 M (fun r2 M1 => ((r2 = 0 → K (0 : Int32) M1) ∧ (¬ r2 = 0 → f_X2_hasPlace a0 p2 M1 (fun r6 M5 => ((r6 = 0 → K (0 : Int32) M5) ∧ (¬ r6 = 0 → f_X2_obstacleFor a0 p1 p2 M5 (fun r10 M9 => ((¬ r10 = 0 → K (0 : Int32) M9) ∧ (r10 = 0 → K (1 : Int32) M9)))))))))
set_option maxRecDepth 100000 in
set_option maxHeartbeats 4000000 in
theorem c_X2_canSail {ad : Nat → Nat} (a0 : Nat) (h0 : IsCanal a0) (p1 : Int32) (p2 : Int32) (M : TM) (K : Int32 → TM → Prop) (h : f_X2_canSail a0 p1 p2 M K) : MI yX2_canSail cX2_canSail 3 (some .boolean) 3 ad [.ref (ad a0), .int p1, .int p2] M (fun r M' => (r = 0 ∨ r = 1) ∧ K r M') := by
  refine MI_of RX2 rfl (by decide +kernel) (Nat.le_of_ble_eq_true rfl) (fun p l e s m below meth c D tc E hr => ?_)
  unfold f_X2_canSail at h
  refine ra_aload_n E dX2_canSail_0 rfl 0 rfl ?_
  refine ra_iload_n E dX2_canSail_1 rfl 1 rfl ?_
  refine ra_callIV (rest := []) E (c_X2_hasBarge _ h0 _ _ _ h) (lq_X2 _) cv_X2_hasBarge ml_X2_162 (by decide) (lm (h0.add (j := 0) (by decide))) (fun R => ⟨_, cel_canal tc ad h0 R⟩) rfl rfl rfl (Nat.le_of_ble_eq_true rfl) ⟨Nat.le_of_ble_eq_true rfl, Nat.le_of_ble_eq_true rfl⟩ ⟨Nat.zero_le _, Nat.zero_le _⟩ dX2_canSail_2 (fun r2 M1 h => ?_)
  obtain ⟨b3, h⟩ := h
  refine ra_if_eq (tgt := 29) E dX2_canSail_5 (by decide) (fun q4 => ?_) (fun q4 => ?_)
  · replace h := h.1 q4
    refine ra_iconst E dX2_canSail_29 ki_0 ?_
    exact ra_zret E hr rfl dX2_canSail_30 ⟨Or.inl rfl, h⟩
  · replace h := h.2 q4
    refine ra_aload_n E dX2_canSail_8 rfl 0 rfl ?_
    refine ra_iload_n E dX2_canSail_9 rfl 2 rfl ?_
    refine ra_callIV (rest := []) E (c_X2_hasPlace _ h0 _ _ _ h) (lq_X2 _) cv_X2_hasPlace ml_X2_90 (by decide) (lm (h0.add (j := 0) (by decide))) (fun R => ⟨_, cel_canal tc ad h0 R⟩) rfl rfl rfl (Nat.le_of_ble_eq_true rfl) ⟨Nat.le_of_ble_eq_true rfl, Nat.le_of_ble_eq_true rfl⟩ ⟨Nat.zero_le _, Nat.zero_le _⟩ dX2_canSail_10 (fun r6 M5 h => ?_)
    obtain ⟨b7, h⟩ := h
    refine ra_if_eq (tgt := 29) E dX2_canSail_13 (by decide) (fun q8 => ?_) (fun q8 => ?_)
    · replace h := h.1 q8
      refine ra_iconst E dX2_canSail_29 ki_0 ?_
      exact ra_zret E hr rfl dX2_canSail_30 ⟨Or.inl rfl, h⟩
    · replace h := h.2 q8
      refine ra_aload_n E dX2_canSail_16 rfl 0 rfl ?_
      refine ra_iload_n E dX2_canSail_17 rfl 1 rfl ?_
      refine ra_iload_n E dX2_canSail_18 rfl 2 rfl ?_
      refine ra_callIV (rest := []) E (c_X2_obstacleFor _ h0 _ _ _ _ h) (lq_X2 _) cv_X2_obstacleFor ml_X2_197 (by decide) (lm (h0.add (j := 0) (by decide))) (fun R => ⟨_, cel_canal tc ad h0 R⟩) rfl rfl rfl (Nat.le_of_ble_eq_true rfl) ⟨Nat.le_of_ble_eq_true rfl, Nat.le_of_ble_eq_true rfl⟩ ⟨Nat.zero_le _, Nat.zero_le _⟩ dX2_canSail_19 (fun r10 M9 h => ?_)
      refine ra_if_ne (tgt := 29) E dX2_canSail_22 (by decide) (fun q11 => ?_) (fun q11 => ?_)
      · replace h := h.1 q11
        refine ra_iconst E dX2_canSail_29 ki_0 ?_
        exact ra_zret E hr rfl dX2_canSail_30 ⟨Or.inl rfl, h⟩
      · replace h := h.2 q11
        refine ra_iconst E dX2_canSail_25 ki_1 ?_
        refine ra_goto (tgt := 30) E dX2_canSail_26 (by decide) ?_
        exact ra_zret E hr rfl dX2_canSail_30 ⟨Or.inr rfl, h⟩
def f_X2_canGive (a0 : Nat) (p1 : Int32) (p2 : Int32) (M : TM) (K : Int32 → TM → Prop) : Prop := f_X2_hasBarge a0 p1 M (fun r2 M1 => ((r2 = 0 → K (0 : Int32) M1) ∧ (¬ r2 = 0 → f_X2_hasOrder a0 p2 M1 (fun r6 M5 => ((r6 = 0 → K (0 : Int32) M5) ∧ (¬ r6 = 0 → vp_in p2 30 ∧ vp_in (M5 (a0 + 31 + p2.toNatClampNeg) 6) 5 ∧ ((¬ (M5 (a0 + 31 + p2.toNatClampNeg) 6) = (0 : Int32) → K (0 : Int32) M5) ∧ ((M5 (a0 + 31 + p2.toNatClampNeg) 6) = (0 : Int32) → f_X2_countHeldBy a0 p1 M5 (fun r13 M12 => (((4 : Int32) ≤ r13 → K (0 : Int32) M12) ∧ (¬ (4 : Int32) ≤ r13 → K (1 : Int32) M12)))))))))))
set_option maxRecDepth 100000 in
set_option maxHeartbeats 4000000 in
theorem c_X2_canGive {ad : Nat → Nat} (a0 : Nat) (h0 : IsCanal a0) (p1 : Int32) (p2 : Int32) (M : TM) (K : Int32 → TM → Prop) (h : f_X2_canGive a0 p1 p2 M K) : MI yX2_canGive cX2_canGive 3 (some .boolean) 2 ad [.ref (ad a0), .int p1, .int p2] M (fun r M' => (r = 0 ∨ r = 1) ∧ K r M') := by
  refine MI_of RX2 rfl (by decide +kernel) (Nat.le_of_ble_eq_true rfl) (fun p l e s m below meth c D tc E hr => ?_)
  unfold f_X2_canGive at h
  refine ra_aload_n E dX2_canGive_0 rfl 0 rfl ?_
  refine ra_iload_n E dX2_canGive_1 rfl 1 rfl ?_
  refine ra_callIV (rest := []) E (c_X2_hasBarge _ h0 _ _ _ h) (lq_X2 _) cv_X2_hasBarge ml_X2_162 (by decide) (lm (h0.add (j := 0) (by decide))) (fun R => ⟨_, cel_canal tc ad h0 R⟩) rfl rfl rfl (Nat.le_of_ble_eq_true rfl) ⟨Nat.le_of_ble_eq_true rfl, Nat.le_of_ble_eq_true rfl⟩ ⟨Nat.zero_le _, Nat.zero_le _⟩ dX2_canGive_2 (fun r2 M1 h => ?_)
  obtain ⟨b3, h⟩ := h
  refine ra_if_eq (tgt := 44) E dX2_canGive_5 (by decide) (fun q4 => ?_) (fun q4 => ?_)
  · replace h := h.1 q4
    refine ra_iconst E dX2_canGive_44 ki_0 ?_
    exact ra_zret E hr rfl dX2_canGive_45 ⟨Or.inl rfl, h⟩
  · replace h := h.2 q4
    refine ra_aload_n E dX2_canGive_8 rfl 0 rfl ?_
    refine ra_iload_n E dX2_canGive_9 rfl 2 rfl ?_
    refine ra_callIV (rest := []) E (c_X2_hasOrder _ h0 _ _ _ h) (lq_X2 _) cv_X2_hasOrder ml_X2_122 (by decide) (lm (h0.add (j := 0) (by decide))) (fun R => ⟨_, cel_canal tc ad h0 R⟩) rfl rfl rfl (Nat.le_of_ble_eq_true rfl) ⟨Nat.le_of_ble_eq_true rfl, Nat.le_of_ble_eq_true rfl⟩ ⟨Nat.zero_le _, Nat.zero_le _⟩ dX2_canGive_10 (fun r6 M5 h => ?_)
    obtain ⟨b7, h⟩ := h
    refine ra_if_eq (tgt := 44) E dX2_canGive_13 (by decide) (fun q8 => ?_) (fun q8 => ?_)
    · replace h := h.1 q8
      refine ra_iconst E dX2_canGive_44 ki_0 ?_
      exact ra_zret E hr rfl dX2_canGive_45 ⟨Or.inl rfl, h⟩
    · replace h := h.2 q8
      refine ra_aload_n E dX2_canGive_16 rfl 0 rfl ?_
      refine gf_X2_7 E h0 fl_X2_42 dX2_canGive_17 ?_
      refine ra_iload_n E dX2_canGive_20 rfl 2 rfl ?_
      obtain ⟨g9, h⟩ := h
      refine ra_aald E (lm (h0.add (by decide))) (cel_ords tc ad h0) rfl g9 dX2_canGive_21 ?_
      refine gf_X6_6 E (isOrder_of h0 g9) fl_X2_132 dX2_canGive_22 ?_
      refine gs_O (i := 0) E 0 (by decide) rfl (by decide) fl_X2_136 dX2_canGive_25 ?_
      obtain ⟨g11, h⟩ := h
      refine acmpO_ne (tgt := 44) E g11 (vpl _ _ (by decide)) dX2_canGive_28 (by decide) (fun q10 => ?_) (fun q10 => ?_)
      · replace h := h.1 q10
        refine ra_iconst E dX2_canGive_44 ki_0 ?_
        exact ra_zret E hr rfl dX2_canGive_45 ⟨Or.inl rfl, h⟩
      · replace h := h.2 q10
        refine ra_aload_n E dX2_canGive_31 rfl 0 rfl ?_
        refine ra_iload_n E dX2_canGive_32 rfl 1 rfl ?_
        refine ra_callIV (rest := []) E (c_X2_countHeldBy _ h0 _ _ _ h) (lq_X2 _) cv_X2_countHeldBy ml_X2_200 (by decide) (lm (h0.add (j := 0) (by decide))) (fun R => ⟨_, cel_canal tc ad h0 R⟩) rfl rfl rfl (Nat.le_of_ble_eq_true rfl) ⟨Nat.le_of_ble_eq_true rfl, Nat.le_of_ble_eq_true rfl⟩ ⟨Nat.zero_le _, Nat.zero_le _⟩ dX2_canGive_33 (fun r13 M12 h => ?_)
        refine ra_iconst E dX2_canGive_36 ki_4 ?_
        refine ra_icmp_ge (tgt := 44) E dX2_canGive_37 (by decide) (fun q14 => ?_) (fun q14 => ?_)
        · replace h := h.1 q14
          refine ra_iconst E dX2_canGive_44 ki_0 ?_
          exact ra_zret E hr rfl dX2_canGive_45 ⟨Or.inl rfl, h⟩
        · replace h := h.2 q14
          refine ra_iconst E dX2_canGive_40 ki_1 ?_
          refine ra_goto (tgt := 45) E dX2_canGive_41 (by decide) ?_
          exact ra_zret E hr rfl dX2_canGive_45 ⟨Or.inr rfl, h⟩
def f_X2_canReopen (a0 : Nat) (p1 : Int32) (M : TM) (K : Int32 → TM → Prop) : Prop := f_X2_hasOrder a0 p1 M (fun r2 M1 => ((r2 = 0 → K (0 : Int32) M1) ∧ (¬ r2 = 0 → vp_in p1 30 ∧ f_X6_isHeld (a0 + 31 + p1.toNatClampNeg) M1 (fun r7 M6 => ((r7 = 0 → K (0 : Int32) M6) ∧ (¬ r7 = 0 → K (1 : Int32) M6))))))
set_option maxRecDepth 100000 in
set_option maxHeartbeats 4000000 in
theorem c_X2_canReopen {ad : Nat → Nat} (a0 : Nat) (h0 : IsCanal a0) (p1 : Int32) (M : TM) (K : Int32 → TM → Prop) (h : f_X2_canReopen a0 p1 M K) : MI yX2_canReopen cX2_canReopen 2 (some .boolean) 1 ad [.ref (ad a0), .int p1] M (fun r M' => (r = 0 ∨ r = 1) ∧ K r M') := by
  refine MI_of RX2 rfl (by decide +kernel) (Nat.le_of_ble_eq_true rfl) (fun p l e s m below meth c D tc E hr => ?_)
  unfold f_X2_canReopen at h
  refine ra_aload_n E dX2_canReopen_0 rfl 0 rfl ?_
  refine ra_iload_n E dX2_canReopen_1 rfl 1 rfl ?_
  refine ra_callIV (rest := []) E (c_X2_hasOrder _ h0 _ _ _ h) (lq_X2 _) cv_X2_hasOrder ml_X2_122 (by decide) (lm (h0.add (j := 0) (by decide))) (fun R => ⟨_, cel_canal tc ad h0 R⟩) rfl rfl rfl (Nat.le_of_ble_eq_true rfl) ⟨Nat.le_of_ble_eq_true rfl, Nat.le_of_ble_eq_true rfl⟩ ⟨Nat.zero_le _, Nat.zero_le _⟩ dX2_canReopen_2 (fun r2 M1 h => ?_)
  obtain ⟨b3, h⟩ := h
  refine ra_if_eq (tgt := 24) E dX2_canReopen_5 (by decide) (fun q4 => ?_) (fun q4 => ?_)
  · replace h := h.1 q4
    refine ra_iconst E dX2_canReopen_24 ki_0 ?_
    exact ra_zret E hr rfl dX2_canReopen_25 ⟨Or.inl rfl, h⟩
  · replace h := h.2 q4
    refine ra_aload_n E dX2_canReopen_8 rfl 0 rfl ?_
    refine gf_X2_7 E h0 fl_X2_42 dX2_canReopen_9 ?_
    refine ra_iload_n E dX2_canReopen_12 rfl 1 rfl ?_
    obtain ⟨g5, h⟩ := h
    refine ra_aald E (lm (h0.add (by decide))) (cel_ords tc ad h0) rfl g5 dX2_canReopen_13 ?_
    refine ra_callIV (rest := []) E (c_X6_isHeld _ (isOrder_of h0 g5) _ _ h) (lq_X6 _) cv_X6_isHeld ml_X2_112 (by decide) (lm (isOrder_of h0 g5).lt) (fun R => ⟨_, cel_order tc ad (isOrder_of h0 g5) R⟩) rfl rfl rfl (Nat.le_of_ble_eq_true rfl) ⟨Nat.le_of_ble_eq_true rfl, Nat.le_of_ble_eq_true rfl⟩ ⟨Nat.zero_le _, Nat.zero_le _⟩ dX2_canReopen_14 (fun r7 M6 h => ?_)
    obtain ⟨b8, h⟩ := h
    refine ra_if_eq (tgt := 24) E dX2_canReopen_17 (by decide) (fun q9 => ?_) (fun q9 => ?_)
    · replace h := h.1 q9
      refine ra_iconst E dX2_canReopen_24 ki_0 ?_
      exact ra_zret E hr rfl dX2_canReopen_25 ⟨Or.inl rfl, h⟩
    · replace h := h.2 q9
      refine ra_iconst E dX2_canReopen_20 ki_1 ?_
      refine ra_goto (tgt := 25) E dX2_canReopen_21 (by decide) ?_
      exact ra_zret E hr rfl dX2_canReopen_25 ⟨Or.inr rfl, h⟩
def f_X2_reopen (a0 : Nat) (p1 : Int32) (M : TM) (K : TM → Prop) : Prop := f_X2_hasOrder a0 p1 M (fun r2 M1 => ((r2 = 0 → K M1) ∧ (¬ r2 = 0 → f_X2_removeFromQueue a0 p1 M1 (fun M5 => vp_in p1 30 ∧ f_X6_open (a0 + 31 + p1.toNatClampNeg) M5 (fun M7 => K M7)))))
set_option maxRecDepth 100000 in
set_option maxHeartbeats 4000000 in
theorem c_X2_reopen {ad : Nat → Nat} (a0 : Nat) (h0 : IsCanal a0) (p1 : Int32) (M : TM) (K : TM → Prop) (h : f_X2_reopen a0 p1 M K) : MV yX2_reopen cX2_reopen 2 2 ad [.ref (ad a0), .int p1] M K := by
  refine MV_of RX2 rfl (by decide +kernel) (Nat.le_of_ble_eq_true rfl) (fun p l e s m below meth c D tc E hr => ?_)
  unfold f_X2_reopen at h
  refine ra_aload_n E dX2_reopen_0 rfl 0 rfl ?_
  refine ra_iload_n E dX2_reopen_1 rfl 1 rfl ?_
  refine ra_callIV (rest := []) E (c_X2_hasOrder _ h0 _ _ _ h) (lq_X2 _) cv_X2_hasOrder ml_X2_122 (by decide) (lm (h0.add (j := 0) (by decide))) (fun R => ⟨_, cel_canal tc ad h0 R⟩) rfl rfl rfl (Nat.le_of_ble_eq_true rfl) ⟨Nat.le_of_ble_eq_true rfl, Nat.le_of_ble_eq_true rfl⟩ ⟨Nat.zero_le _, Nat.zero_le _⟩ dX2_reopen_2 (fun r2 M1 h => ?_)
  obtain ⟨b3, h⟩ := h
  refine ra_if_eq (tgt := 22) E dX2_reopen_5 (by decide) (fun q4 => ?_) (fun q4 => ?_)
  · replace h := h.1 q4
    exact ra_vret E hr dX2_reopen_22 h
  · replace h := h.2 q4
    refine ra_aload_n E dX2_reopen_8 rfl 0 rfl ?_
    refine ra_iload_n E dX2_reopen_9 rfl 1 rfl ?_
    refine ra_callVV (rest := []) E (c_X2_removeFromQueue _ h0 _ _ _ h) (lq_X2 _) cv_X2_removeFromQueue ml_X2_210 (by decide) (lm (h0.add (j := 0) (by decide))) (fun R => ⟨_, cel_canal tc ad h0 R⟩) rfl rfl rfl (Nat.le_of_ble_eq_true rfl) ⟨Nat.le_of_ble_eq_true rfl, Nat.le_of_ble_eq_true rfl⟩ ⟨Nat.zero_le _, Nat.zero_le _⟩ dX2_reopen_10 (fun M5 h => ?_)
    refine ra_aload_n E dX2_reopen_13 rfl 0 rfl ?_
    refine gf_X2_7 E h0 fl_X2_42 dX2_reopen_14 ?_
    refine ra_iload_n E dX2_reopen_17 rfl 1 rfl ?_
    obtain ⟨g6, h⟩ := h
    refine ra_aald E (lm (h0.add (by decide))) (cel_ords tc ad h0) rfl g6 dX2_reopen_18 ?_
    refine ra_callVV (rest := []) E (c_X6_open _ (isOrder_of h0 g6) _ _ h) (lq_X6 _) cv_X6_open ml_X2_213 (by decide) (lm (isOrder_of h0 g6).lt) (fun R => ⟨_, cel_order tc ad (isOrder_of h0 g6) R⟩) rfl rfl rfl (Nat.le_of_ble_eq_true rfl) ⟨Nat.le_of_ble_eq_true rfl, Nat.le_of_ble_eq_true rfl⟩ ⟨Nat.zero_le _, Nat.zero_le _⟩ dX2_reopen_19 (fun M7 h => ?_)
    exact ra_vret E hr dX2_reopen_22 h
def f_X2_moveBarges_L2 (a0 : Nat) (K : TM → Prop) : Nat → Int32 → TM → Prop
  | 0, _, _ => False
  | n + 1, x1, M => (((M a0 4) ≤ x1 → K M) ∧ (¬ (M a0 4) ≤ x1 → vp_in x1 5 ∧ f_X1_isUnderWay (a0 + 21 + 2 * x1.toNatClampNeg) M (fun r4 M3 => ((r4 = 0 → f_X2_moveBarges_L2 a0 K n (x1 + 1) M3) ∧ (¬ r4 = 0 → vp_in x1 5 ∧ f_X2_move a0 x1 (a0 + 21 + 2 * x1.toNatClampNeg) M3 (fun M8 => f_X2_moveBarges_L2 a0 K n (x1 + 1) M8))))))
set_option maxRecDepth 100000 in
set_option maxHeartbeats 4000000 in
theorem l_X2_moveBarges_L2 {p : Program} {l : Launch} {e : Env} {s : State} {m : MethodId} {args : Array Value} {below : List Frame} {meth : Method} {c : Code} {D : va_G} {tc : Nat → ClassId} {ad : Nat → Nat} (a0 : Nat) (h0 : IsCanal a0) {K : TM → Prop} (E : Ev p s m args meth c D tc ad RX2 cX2_moveBarges 2) (hr : meth.sig.returnType = none) : ∀ (n : Nat) (x1 : Int32) (M : TM) , f_X2_moveBarges_L2 a0 K n x1 M → Wa p l e (rmD 2) s m args below meth c 0 0 (MQ below (va_Qv K (EndW D tc ad) (A0 ad s.heap.size)) args s 0 0 (A0 ad s.heap.size)) D tc ad 2 M 2 [(0, .ref (ad a0)), (1, .int x1)] [] := by
  intro n
  induction n with
  | zero => intro x1 M  h; exact h.elim
  | succ n ih =>
    intro x1 M  h
    unfold f_X2_moveBarges_L2 at h
    refine ra_iload_n E dX2_moveBarges_2 rfl 1 rfl ?_
    refine ra_aload_n E dX2_moveBarges_3 rfl 0 rfl ?_
    refine gf_X2_4 E h0 fl_X2_28 dX2_moveBarges_4 ?_
    refine ra_icmp_ge (tgt := 39) E dX2_moveBarges_7 (by decide) (fun q1 => ?_) (fun q1 => ?_)
    · replace h := h.1 q1
      exact ra_vret E hr dX2_moveBarges_39 h
    · replace h := h.2 q1
      refine ra_aload_n E dX2_moveBarges_10 rfl 0 rfl ?_
      refine gf_X2_5 E h0 fl_X2_33 dX2_moveBarges_11 ?_
      refine ra_iload_n E dX2_moveBarges_14 rfl 1 rfl ?_
      obtain ⟨g2, h⟩ := h
      refine ra_aald E (lm (h0.add (by decide))) (cel_bars tc ad h0) rfl g2 dX2_moveBarges_15 ?_
      refine ra_callIV (rest := []) E (c_X1_isUnderWay _ (isBarge_of h0 g2) _ _ h) (lq_X1 _) cv_X1_isUnderWay ml_X2_165 (by decide) (lm (Nat.lt_of_succ_lt (isBarge_of h0 g2).lt)) (fun R => ⟨_, cel_barge tc ad (isBarge_of h0 g2) R⟩) rfl rfl rfl (Nat.le_of_ble_eq_true rfl) ⟨Nat.le_of_ble_eq_true rfl, Nat.le_of_ble_eq_true rfl⟩ ⟨Nat.zero_le _, Nat.zero_le _⟩ dX2_moveBarges_16 (fun r4 M3 h => ?_)
      obtain ⟨b5, h⟩ := h
      refine ra_if_eq (tgt := 33) E dX2_moveBarges_19 (by decide) (fun q6 => ?_) (fun q6 => ?_)
      · replace h := h.1 q6
        refine ra_iinc1 (L' := [(1, _), (0, _)]) E dX2_moveBarges_33 1 rfl (by decide) rfl ?_
        refine ra_goto (tgt := 2) E dX2_moveBarges_36 (by decide) ?_
        exact ra_sub (L' := [(0, _), (1, _)]) [1, 0] rfl (ih _ _ h)
      · replace h := h.2 q6
        refine ra_aload_n E dX2_moveBarges_22 rfl 0 rfl ?_
        refine ra_iload_n E dX2_moveBarges_23 rfl 1 rfl ?_
        refine ra_aload_n E dX2_moveBarges_24 rfl 0 rfl ?_
        refine gf_X2_5 E h0 fl_X2_33 dX2_moveBarges_25 ?_
        refine ra_iload_n E dX2_moveBarges_28 rfl 1 rfl ?_
        obtain ⟨g7, h⟩ := h
        refine ra_aald E (lm (h0.add (by decide))) (cel_bars tc ad h0) rfl g7 dX2_moveBarges_29 ?_
        refine ra_callVV (rest := []) E (c_X2_move _ h0 _ _ (isBarge_of h0 g7) _ _ h) (lq_X2 _) cv_X2_move ml_X2_240 (by decide) (lm (h0.add (j := 0) (by decide))) (fun R => ⟨_, cel_canal tc ad h0 R⟩) rfl rfl rfl (Nat.le_of_ble_eq_true rfl) ⟨Nat.le_of_ble_eq_true rfl, Nat.le_of_ble_eq_true rfl⟩ ⟨Nat.zero_le _, Nat.zero_le _⟩ dX2_moveBarges_30 (fun M8 h => ?_)
        refine ra_iinc1 (L' := [(1, _), (0, _)]) E dX2_moveBarges_33 1 rfl (by decide) rfl ?_
        refine ra_goto (tgt := 2) E dX2_moveBarges_36 (by decide) ?_
        exact ra_sub (L' := [(0, _), (1, _)]) [1, 0] rfl (ih _ _ h)
def f_X2_moveBarges (a0 : Nat) (M : TM) (K : TM → Prop) : Prop := ∃ n, f_X2_moveBarges_L2 a0 K n (0 : Int32) M
set_option maxRecDepth 100000 in
set_option maxHeartbeats 4000000 in
theorem c_X2_moveBarges {ad : Nat → Nat} (a0 : Nat) (h0 : IsCanal a0) (M : TM) (K : TM → Prop) (h : f_X2_moveBarges a0 M K) : MV yX2_moveBarges cX2_moveBarges 2 2 ad [.ref (ad a0)] M K := by
  refine MV_of RX2 rfl (by decide +kernel) (Nat.le_of_ble_eq_true rfl) (fun p l e s m below meth c D tc E hr => ?_)
  unfold f_X2_moveBarges at h
  refine ra_iconst E dX2_moveBarges_0 ki_0 ?_
  refine ra_istore_n (L' := [(1, _), (0, _)]) E dX2_moveBarges_1 rfl (by decide) rfl ?_
  obtain ⟨n9, h⟩ := h
  exact ra_sub (L' := [(0, _), (1, _)]) [1, 0] rfl (l_X2_moveBarges_L2 a0 h0 E hr n9 _ _ h)
def f_X2_pullNoodles_L2 (a0 : Nat) (K : TM → Prop) : Nat → Int32 → TM → Prop
  | 0, _, _ => False
  | n + 1, x1, M => (((M a0 4) ≤ x1 → K M) ∧ (¬ (M a0 4) ≤ x1 → vp_in x1 5 ∧ f_X1_queuedAt (a0 + 21 + 2 * x1.toNatClampNeg) (0 : Int32) M (fun r4 M3 => f_X2_hasOrder a0 r4 M3 (fun r6 M5 => ((r6 = 0 → f_X2_pullNoodles_L2 a0 K n (x1 + 1) M5) ∧ (¬ r6 = 0 → vp_in x1 5 ∧ vp_in r4 30 ∧ f_X2_pull a0 (a0 + 21 + 2 * x1.toNatClampNeg) (a0 + 31 + r4.toNatClampNeg) r4 M5 (fun M11 => f_X2_pullNoodles_L2 a0 K n (x1 + 1) M11)))))))
set_option maxRecDepth 100000 in
set_option maxHeartbeats 4000000 in
theorem l_X2_pullNoodles_L2 {p : Program} {l : Launch} {e : Env} {s : State} {m : MethodId} {args : Array Value} {below : List Frame} {meth : Method} {c : Code} {D : va_G} {tc : Nat → ClassId} {ad : Nat → Nat} (a0 : Nat) (h0 : IsCanal a0) {K : TM → Prop} (E : Ev p s m args meth c D tc ad RX2 cX2_pullNoodles 3) (hr : meth.sig.returnType = none) : ∀ (n : Nat) (x1 : Int32) (M : TM) , f_X2_pullNoodles_L2 a0 K n x1 M → Wa p l e (rmD 2) s m args below meth c 0 0 (MQ below (va_Qv K (EndW D tc ad) (A0 ad s.heap.size)) args s 0 0 (A0 ad s.heap.size)) D tc ad 3 M 2 [(0, .ref (ad a0)), (1, .int x1)] [] := by
  intro n
  induction n with
  | zero => intro x1 M  h; exact h.elim
  | succ n ih =>
    intro x1 M  h
    unfold f_X2_pullNoodles_L2 at h
    refine ra_iload_n E dX2_pullNoodles_2 rfl 1 rfl ?_
    refine ra_aload_n E dX2_pullNoodles_3 rfl 0 rfl ?_
    refine gf_X2_4 E h0 fl_X2_28 dX2_pullNoodles_4 ?_
    refine ra_icmp_ge (tgt := 52) E dX2_pullNoodles_7 (by decide) (fun q1 => ?_) (fun q1 => ?_)
    · replace h := h.1 q1
      exact ra_vret E hr dX2_pullNoodles_52 h
    · replace h := h.2 q1
      refine ra_aload_n E dX2_pullNoodles_10 rfl 0 rfl ?_
      refine gf_X2_5 E h0 fl_X2_33 dX2_pullNoodles_11 ?_
      refine ra_iload_n E dX2_pullNoodles_14 rfl 1 rfl ?_
      obtain ⟨g2, h⟩ := h
      refine ra_aald E (lm (h0.add (by decide))) (cel_bars tc ad h0) rfl g2 dX2_pullNoodles_15 ?_
      refine ra_iconst E dX2_pullNoodles_16 ki_0 ?_
      refine ra_callIV (rest := []) E (c_X1_queuedAt _ (isBarge_of h0 g2) _ _ _ h) (lq_X1 _) cv_X1_queuedAt ml_X2_118 (by decide) (lm (Nat.lt_of_succ_lt (isBarge_of h0 g2).lt)) (fun R => ⟨_, cel_barge tc ad (isBarge_of h0 g2) R⟩) rfl rfl rfl (Nat.le_of_ble_eq_true rfl) ⟨Nat.le_of_ble_eq_true rfl, Nat.le_of_ble_eq_true rfl⟩ ⟨Nat.zero_le _, Nat.zero_le _⟩ dX2_pullNoodles_17 (fun r4 M3 h => ?_)
      refine ra_istore_n (L' := [(2, _), (0, _), (1, _)]) E dX2_pullNoodles_20 rfl (by decide) rfl ?_
      refine ra_aload_n E dX2_pullNoodles_21 rfl 1 rfl ?_
      refine ra_iload_n E dX2_pullNoodles_22 rfl 0 rfl ?_
      refine ra_callIV (rest := []) E (c_X2_hasOrder _ h0 _ _ _ h) (lq_X2 _) cv_X2_hasOrder ml_X2_122 (by decide) (lm (h0.add (j := 0) (by decide))) (fun R => ⟨_, cel_canal tc ad h0 R⟩) rfl rfl rfl (Nat.le_of_ble_eq_true rfl) ⟨Nat.le_of_ble_eq_true rfl, Nat.le_of_ble_eq_true rfl⟩ ⟨Nat.zero_le _, Nat.zero_le _⟩ dX2_pullNoodles_23 (fun r6 M5 h => ?_)
      obtain ⟨b7, h⟩ := h
      refine ra_if_eq (tgt := 46) E dX2_pullNoodles_26 (by decide) (fun q8 => ?_) (fun q8 => ?_)
      · replace h := h.1 q8
        refine ra_iinc1 (L' := [(1, _), (2, _), (0, _)]) E dX2_pullNoodles_46 2 rfl (by decide) rfl ?_
        refine ra_goto (tgt := 2) E dX2_pullNoodles_49 (by decide) ?_
        exact ra_sub (L' := [(0, _), (1, _)]) [2, 0] rfl (ih _ _ h)
      · replace h := h.2 q8
        refine ra_aload_n E dX2_pullNoodles_29 rfl 1 rfl ?_
        refine ra_aload_n E dX2_pullNoodles_30 rfl 1 rfl ?_
        refine gf_X2_5 E h0 fl_X2_33 dX2_pullNoodles_31 ?_
        refine ra_iload_n E dX2_pullNoodles_34 rfl 2 rfl ?_
        obtain ⟨g9, h⟩ := h
        refine ra_aald E (lm (h0.add (by decide))) (cel_bars tc ad h0) rfl g9 dX2_pullNoodles_35 ?_
        refine ra_aload_n E dX2_pullNoodles_36 rfl 1 rfl ?_
        refine gf_X2_7 E h0 fl_X2_42 dX2_pullNoodles_37 ?_
        refine ra_iload_n E dX2_pullNoodles_40 rfl 0 rfl ?_
        obtain ⟨g10, h⟩ := h
        refine ra_aald E (lm (h0.add (by decide))) (cel_ords tc ad h0) rfl g10 dX2_pullNoodles_41 ?_
        refine ra_iload_n E dX2_pullNoodles_42 rfl 0 rfl ?_
        refine ra_callVV (rest := []) E (c_X2_pull _ h0 _ (isBarge_of h0 g9) _ (isOrder_of h0 g10) _ _ _ h) (lq_X2 _) cv_X2_pull ml_X2_250 (by decide) (lm (h0.add (j := 0) (by decide))) (fun R => ⟨_, cel_canal tc ad h0 R⟩) rfl rfl rfl (Nat.le_of_ble_eq_true rfl) ⟨Nat.le_of_ble_eq_true rfl, Nat.le_of_ble_eq_true rfl⟩ ⟨Nat.zero_le _, Nat.zero_le _⟩ dX2_pullNoodles_43 (fun M11 h => ?_)
        refine ra_iinc1 (L' := [(1, _), (2, _), (0, _)]) E dX2_pullNoodles_46 2 rfl (by decide) rfl ?_
        refine ra_goto (tgt := 2) E dX2_pullNoodles_49 (by decide) ?_
        exact ra_sub (L' := [(0, _), (1, _)]) [2, 0] rfl (ih _ _ h)
def f_X2_pullNoodles (a0 : Nat) (M : TM) (K : TM → Prop) : Prop := ∃ n, f_X2_pullNoodles_L2 a0 K n (0 : Int32) M
set_option maxRecDepth 100000 in
set_option maxHeartbeats 4000000 in
theorem c_X2_pullNoodles {ad : Nat → Nat} (a0 : Nat) (h0 : IsCanal a0) (M : TM) (K : TM → Prop) (h : f_X2_pullNoodles a0 M K) : MV yX2_pullNoodles cX2_pullNoodles 3 2 ad [.ref (ad a0)] M K := by
  refine MV_of RX2 rfl (by decide +kernel) (Nat.le_of_ble_eq_true rfl) (fun p l e s m below meth c D tc E hr => ?_)
  unfold f_X2_pullNoodles at h
  refine ra_iconst E dX2_pullNoodles_0 ki_0 ?_
  refine ra_istore_n (L' := [(1, _), (0, _)]) E dX2_pullNoodles_1 rfl (by decide) rfl ?_
  obtain ⟨n12, h⟩ := h
  exact ra_sub (L' := [(0, _), (1, _)]) [1, 0] rfl (l_X2_pullNoodles_L2 a0 h0 E hr n12 _ _ h)
def f_X2_serve (a0 : Nat) (a1 : Nat) (a2 : Nat) (M : TM) (K : TM → Prop) : Prop := f_X1_isInLock a1 M (fun r2 M1 => ((¬ r2 = 0 → K M1) ∧ (r2 = 0 → ((¬ (M1 a1 0) = (M a2 0) → K M1) ∧ ((M1 a1 0) = (M a2 0) → (((M1 a1 5) < (M1 a2 1) → K M1) ∧ (¬ (M1 a1 5) < (M1 a2 1) → f_X2_hasPlace a0 (M a2 0) M1 (fun r8 M7 => ((¬ r8 = 0 → ∀ M11, M11 = u2 M7 a1 5 ((M7 a1 5) - (M7 a2 1)) → vp_in (M a2 0) 16 ∧ vp_in (M a2 0) 16 ∧ ∀ M14, M14 = u2 M11 (a0 + 2) (M a2 0).toNatClampNeg ((M11 (a0 + 2) (M a2 0).toNatClampNeg) + (M11 a2 1)) → vp_in (M a2 0) 16 ∧ vp_in (M a2 0) 16 ∧ ∀ M17, M17 = u2 M14 (a0 + 3) (M a2 0).toNatClampNeg ((M14 (a0 + 3) (M a2 0).toNatClampNeg) + (M14 a2 1)) → ∀ M18, M18 = u2 M17 a0 11 ((M17 a0 11) + (M17 a2 1)) → ∀ M19, M19 = u2 M18 a0 12 ((M18 a0 12) + (1 : Int32)) → f_X6_worth a2 M19 (fun r21 M20 => ∀ M22, M22 = u2 M20 a0 9 ((M19 a0 9) + r21) → f_X6_finish a2 (3 : Int32) M22 (fun M23 => K M23))) ∧ (r8 = 0 → K M7))))))))))
set_option maxRecDepth 100000 in
set_option maxHeartbeats 4000000 in
theorem c_X2_serve {ad : Nat → Nat} (a0 : Nat) (h0 : IsCanal a0) (a1 : Nat) (h1 : IsBarge a1) (a2 : Nat) (h2 : IsOrder a2) (M : TM) (K : TM → Prop) (h : f_X2_serve a0 a1 a2 M K) : MV yX2_serve cX2_serve 4 1 ad [.ref (ad a0), .ref (ad a1), .ref (ad a2)] M K := by
  refine MV_of RX2 rfl (by decide +kernel) (Nat.le_of_ble_eq_true rfl) (fun p l e s m below meth c D tc E hr => ?_)
  unfold f_X2_serve at h
  refine ra_aload_n E dX2_serve_0 rfl 2 rfl ?_
  refine gf_X6_0 E h2 fl_X2_105 dX2_serve_1 ?_
  refine ra_istore_n (L' := [(3, _), (0, _), (1, _), (2, _)]) E dX2_serve_4 rfl (by decide) rfl ?_
  refine ra_aload_n E dX2_serve_5 rfl 2 rfl ?_
  refine ra_callIV (rest := []) E (c_X1_isInLock _ h1 _ _ h) (lq_X1 _) cv_X1_isInLock ml_X2_101 (by decide) (lm (Nat.lt_of_succ_lt h1.lt)) (fun R => ⟨_, cel_barge tc ad h1 R⟩) rfl rfl rfl (Nat.le_of_ble_eq_true rfl) ⟨Nat.le_of_ble_eq_true rfl, Nat.le_of_ble_eq_true rfl⟩ ⟨Nat.zero_le _, Nat.zero_le _⟩ dX2_serve_6 (fun r2 M1 h => ?_)
  obtain ⟨b3, h⟩ := h
  refine ra_if_ne (tgt := 39) E dX2_serve_9 (by decide) (fun q4 => ?_) (fun q4 => ?_)
  · replace h := h.1 q4
    exact ra_vret E hr dX2_serve_39 h
  · replace h := h.2 q4
    refine ra_aload_n E dX2_serve_12 rfl 2 rfl ?_
    refine gf_X1_0 E h1 fl_X2_98 dX2_serve_13 ?_
    refine ra_iload_n E dX2_serve_16 rfl 0 rfl ?_
    refine ra_icmp_ne (tgt := 39) E dX2_serve_17 (by decide) (fun q5 => ?_) (fun q5 => ?_)
    · replace h := h.1 q5
      exact ra_vret E hr dX2_serve_39 h
    · replace h := h.2 q5
      refine ra_aload_n E dX2_serve_20 rfl 2 rfl ?_
      refine gf_X1_5 E h1 fl_X2_144 dX2_serve_21 ?_
      refine ra_aload_n E dX2_serve_24 rfl 3 rfl ?_
      refine gf_X6_1 E h2 fl_X2_129 dX2_serve_25 ?_
      refine ra_icmp_lt (tgt := 39) E dX2_serve_28 (by decide) (fun q6 => ?_) (fun q6 => ?_)
      · replace h := h.1 q6
        exact ra_vret E hr dX2_serve_39 h
      · replace h := h.2 q6
        refine ra_aload_n E dX2_serve_31 rfl 1 rfl ?_
        refine ra_iload_n E dX2_serve_32 rfl 0 rfl ?_
        refine ra_callIV (rest := []) E (c_X2_hasPlace _ h0 _ _ _ h) (lq_X2 _) cv_X2_hasPlace ml_X2_90 (by decide) (lm (h0.add (j := 0) (by decide))) (fun R => ⟨_, cel_canal tc ad h0 R⟩) rfl rfl rfl (Nat.le_of_ble_eq_true rfl) ⟨Nat.le_of_ble_eq_true rfl, Nat.le_of_ble_eq_true rfl⟩ ⟨Nat.zero_le _, Nat.zero_le _⟩ dX2_serve_33 (fun r8 M7 h => ?_)
        obtain ⟨b9, h⟩ := h
        refine ra_if_ne (tgt := 40) E dX2_serve_36 (by decide) (fun q10 => ?_) (fun q10 => ?_)
        · replace h := h.1 q10
          refine ra_aload_n E dX2_serve_40 rfl 2 rfl ?_
          refine ra_dup E dX2_serve_41 rfl ?_
          refine gf_X1_5 E h1 fl_X2_144 dX2_serve_42 ?_
          refine ra_aload_n E dX2_serve_45 rfl 3 rfl ?_
          refine gf_X6_1 E h2 fl_X2_129 dX2_serve_46 ?_
          refine ra_isub E dX2_serve_49 ?_
          refine pf_X1_5 E h1 fl_X2_144 dX2_serve_50 ?_
          replace h := h _ rfl
          refine ra_aload_n E dX2_serve_53 rfl 1 rfl ?_
          refine gf_X2_2 E h0 fl_X2_21 dX2_serve_54 ?_
          refine ra_iload_n E dX2_serve_57 rfl 0 rfl ?_
          refine ra_dup2 E dX2_serve_58 rfl rfl ?_
          obtain ⟨g12, h⟩ := h
          refine ra_iald E (lm (h0.add (by decide))) (cel_used tc ad h0) g12 dX2_serve_59 ?_
          refine ra_aload_n E dX2_serve_60 rfl 3 rfl ?_
          refine gf_X6_1 E h2 fl_X2_129 dX2_serve_61 ?_
          refine ra_iadd E dX2_serve_64 ?_
          obtain ⟨g13, h⟩ := h
          refine ra_iast E (lm (h0.add (by decide))) (cel_used tc ad h0) g13 dX2_serve_65 ?_
          replace h := h _ rfl
          refine ra_aload_n E dX2_serve_66 rfl 1 rfl ?_
          refine gf_X2_3 E h0 fl_X2_25 dX2_serve_67 ?_
          refine ra_iload_n E dX2_serve_70 rfl 0 rfl ?_
          refine ra_dup2 E dX2_serve_71 rfl rfl ?_
          obtain ⟨g15, h⟩ := h
          refine ra_iald E (lm (h0.add (by decide))) (cel_eat tc ad h0) g15 dX2_serve_72 ?_
          refine ra_aload_n E dX2_serve_73 rfl 3 rfl ?_
          refine gf_X6_1 E h2 fl_X2_129 dX2_serve_74 ?_
          refine ra_iadd E dX2_serve_77 ?_
          obtain ⟨g16, h⟩ := h
          refine ra_iast E (lm (h0.add (by decide))) (cel_eat tc ad h0) g16 dX2_serve_78 ?_
          replace h := h _ rfl
          refine ra_aload_n E dX2_serve_79 rfl 1 rfl ?_
          refine ra_dup E dX2_serve_80 rfl ?_
          refine gf_X2_11 E h0 fl_X2_55 dX2_serve_81 ?_
          refine ra_aload_n E dX2_serve_84 rfl 3 rfl ?_
          refine gf_X6_1 E h2 fl_X2_129 dX2_serve_85 ?_
          refine ra_iadd E dX2_serve_88 ?_
          refine pf_X2_11 E h0 fl_X2_55 dX2_serve_89 ?_
          replace h := h _ rfl
          refine ra_aload_n E dX2_serve_92 rfl 1 rfl ?_
          refine ra_dup E dX2_serve_93 rfl ?_
          refine gf_X2_12 E h0 fl_X2_58 dX2_serve_94 ?_
          refine ra_iconst E dX2_serve_97 ki_1 ?_
          refine ra_iadd E dX2_serve_98 ?_
          refine pf_X2_12 E h0 fl_X2_58 dX2_serve_99 ?_
          replace h := h _ rfl
          refine ra_aload_n E dX2_serve_102 rfl 1 rfl ?_
          refine ra_dup E dX2_serve_103 rfl ?_
          refine gf_X2_9 E h0 fl_X2_49 dX2_serve_104 ?_
          refine ra_aload_n E dX2_serve_107 rfl 3 rfl ?_
          refine ra_callIV (rest := [_, _]) E (c_X6_worth _ h2 _ _ h) (lq_X6 _) cv_X6_worth ml_X2_264 (by decide) (lm h2.lt) (fun R => ⟨_, cel_order tc ad h2 R⟩) rfl rfl rfl (Nat.le_of_ble_eq_true rfl) ⟨Nat.le_of_ble_eq_true rfl, Nat.le_of_ble_eq_true rfl⟩ ⟨Nat.zero_le _, Nat.zero_le _⟩ dX2_serve_108 (fun r21 M20 h => ?_)
          refine ra_iadd E dX2_serve_111 ?_
          refine pf_X2_9 E h0 fl_X2_49 dX2_serve_112 ?_
          replace h := h _ rfl
          refine ra_aload_n E dX2_serve_115 rfl 3 rfl ?_
          refine gs_O (i := 3) E 3 (by decide) rfl (by decide) fl_X2_159 dX2_serve_116 ?_
          refine ra_callVV (rest := []) E (c_X6_finish _ h2 _ _ _ h) (lq_X6 _) cv_X6_finish ml_X2_267 (by decide) (lm h2.lt) (fun R => ⟨_, cel_order tc ad h2 R⟩) rfl rfl rfl (Nat.le_of_ble_eq_true rfl) ⟨Nat.le_of_ble_eq_true rfl, Nat.le_of_ble_eq_true rfl⟩ ⟨Nat.zero_le _, Nat.zero_le _⟩ dX2_serve_119 (fun M23 h => ?_)
          exact ra_vret E hr dX2_serve_122 h
        · replace h := h.2 q10
          exact ra_vret E hr dX2_serve_39 h
def f_X2_expireOrders_L2 (a0 : Nat) (K : TM → Prop) : Nat → Int32 → TM → Prop
  | 0, _, _ => False
  | n + 1, x1, M => (((M a0 6) ≤ x1 → K M) ∧ (¬ (M a0 6) ≤ x1 → vp_in x1 30 ∧ ((¬ (M (a0 + 31 + x1.toNatClampNeg) 4) = (M a0 8) → f_X2_expireOrders_L2 a0 K n (x1 + 1) M) ∧ ((M (a0 + 31 + x1.toNatClampNeg) 4) = (M a0 8) → vp_in x1 30 ∧ f_X6_canStillBeEaten (a0 + 31 + x1.toNatClampNeg) M (fun r6 M5 => ((r6 = 0 → f_X2_expireOrders_L2 a0 K n (x1 + 1) M5) ∧ (¬ r6 = 0 → f_X2_removeFromQueue a0 x1 M5 (fun M9 => vp_in x1 30 ∧ f_X6_finish (a0 + 31 + x1.toNatClampNeg) (4 : Int32) M9 (fun M11 => ∀ M12, M12 = u2 M11 a0 9 ((M11 a0 9) - (2 : Int32)) → ∀ M13, M13 = u2 M12 a0 13 ((M12 a0 13) + (1 : Int32)) → f_X2_expireOrders_L2 a0 K n (x1 + 1) M13)))))))))
set_option maxRecDepth 100000 in
set_option maxHeartbeats 4000000 in
theorem l_X2_expireOrders_L2 {p : Program} {l : Launch} {e : Env} {s : State} {m : MethodId} {args : Array Value} {below : List Frame} {meth : Method} {c : Code} {D : va_G} {tc : Nat → ClassId} {ad : Nat → Nat} (a0 : Nat) (h0 : IsCanal a0) {K : TM → Prop} (E : Ev p s m args meth c D tc ad RX2 cX2_expireOrders 2) (hr : meth.sig.returnType = none) : ∀ (n : Nat) (x1 : Int32) (M : TM) , f_X2_expireOrders_L2 a0 K n x1 M → Wa p l e (rmD 2) s m args below meth c 0 0 (MQ below (va_Qv K (EndW D tc ad) (A0 ad s.heap.size)) args s 0 0 (A0 ad s.heap.size)) D tc ad 2 M 2 [(0, .ref (ad a0)), (1, .int x1)] [] := by
  intro n
  induction n with
  | zero => intro x1 M  h; exact h.elim
  | succ n ih =>
    intro x1 M  h
    unfold f_X2_expireOrders_L2 at h
    refine ra_iload_n E dX2_expireOrders_2 rfl 1 rfl ?_
    refine ra_aload_n E dX2_expireOrders_3 rfl 0 rfl ?_
    refine gf_X2_6 E h0 fl_X2_37 dX2_expireOrders_4 ?_
    refine ra_icmp_ge (tgt := 81) E dX2_expireOrders_7 (by decide) (fun q1 => ?_) (fun q1 => ?_)
    · replace h := h.1 q1
      exact ra_vret E hr dX2_expireOrders_81 h
    · replace h := h.2 q1
      refine ra_aload_n E dX2_expireOrders_10 rfl 0 rfl ?_
      refine gf_X2_7 E h0 fl_X2_42 dX2_expireOrders_11 ?_
      refine ra_iload_n E dX2_expireOrders_14 rfl 1 rfl ?_
      obtain ⟨g2, h⟩ := h
      refine ra_aald E (lm (h0.add (by decide))) (cel_ords tc ad h0) rfl g2 dX2_expireOrders_15 ?_
      refine gf_X6_4 E (isOrder_of h0 g2) fl_X2_141 dX2_expireOrders_16 ?_
      refine ra_aload_n E dX2_expireOrders_19 rfl 0 rfl ?_
      refine gf_X2_8 E h0 fl_X2_46 dX2_expireOrders_20 ?_
      refine ra_icmp_ne (tgt := 75) E dX2_expireOrders_23 (by decide) (fun q3 => ?_) (fun q3 => ?_)
      · replace h := h.1 q3
        refine ra_iinc1 (L' := [(1, _), (0, _)]) E dX2_expireOrders_75 1 rfl (by decide) rfl ?_
        refine ra_goto (tgt := 2) E dX2_expireOrders_78 (by decide) ?_
        exact ra_sub (L' := [(0, _), (1, _)]) [1, 0] rfl (ih _ _ h)
      · replace h := h.2 q3
        refine ra_aload_n E dX2_expireOrders_26 rfl 0 rfl ?_
        refine gf_X2_7 E h0 fl_X2_42 dX2_expireOrders_27 ?_
        refine ra_iload_n E dX2_expireOrders_30 rfl 1 rfl ?_
        obtain ⟨g4, h⟩ := h
        refine ra_aald E (lm (h0.add (by decide))) (cel_ords tc ad h0) rfl g4 dX2_expireOrders_31 ?_
        refine ra_callIV (rest := []) E (c_X6_canStillBeEaten _ (isOrder_of h0 g4) _ _ h) (lq_X6 _) cv_X6_canStillBeEaten ml_X2_106 (by decide) (lm (isOrder_of h0 g4).lt) (fun R => ⟨_, cel_order tc ad (isOrder_of h0 g4) R⟩) rfl rfl rfl (Nat.le_of_ble_eq_true rfl) ⟨Nat.le_of_ble_eq_true rfl, Nat.le_of_ble_eq_true rfl⟩ ⟨Nat.zero_le _, Nat.zero_le _⟩ dX2_expireOrders_32 (fun r6 M5 h => ?_)
        obtain ⟨b7, h⟩ := h
        refine ra_if_eq (tgt := 75) E dX2_expireOrders_35 (by decide) (fun q8 => ?_) (fun q8 => ?_)
        · replace h := h.1 q8
          refine ra_iinc1 (L' := [(1, _), (0, _)]) E dX2_expireOrders_75 1 rfl (by decide) rfl ?_
          refine ra_goto (tgt := 2) E dX2_expireOrders_78 (by decide) ?_
          exact ra_sub (L' := [(0, _), (1, _)]) [1, 0] rfl (ih _ _ h)
        · replace h := h.2 q8
          refine ra_aload_n E dX2_expireOrders_38 rfl 0 rfl ?_
          refine ra_iload_n E dX2_expireOrders_39 rfl 1 rfl ?_
          refine ra_callVV (rest := []) E (c_X2_removeFromQueue _ h0 _ _ _ h) (lq_X2 _) cv_X2_removeFromQueue ml_X2_210 (by decide) (lm (h0.add (j := 0) (by decide))) (fun R => ⟨_, cel_canal tc ad h0 R⟩) rfl rfl rfl (Nat.le_of_ble_eq_true rfl) ⟨Nat.le_of_ble_eq_true rfl, Nat.le_of_ble_eq_true rfl⟩ ⟨Nat.zero_le _, Nat.zero_le _⟩ dX2_expireOrders_40 (fun M9 h => ?_)
          refine ra_aload_n E dX2_expireOrders_43 rfl 0 rfl ?_
          refine gf_X2_7 E h0 fl_X2_42 dX2_expireOrders_44 ?_
          refine ra_iload_n E dX2_expireOrders_47 rfl 1 rfl ?_
          obtain ⟨g10, h⟩ := h
          refine ra_aald E (lm (h0.add (by decide))) (cel_ords tc ad h0) rfl g10 dX2_expireOrders_48 ?_
          refine gs_O (i := 4) E 4 (by decide) rfl (by decide) fl_X2_271 dX2_expireOrders_49 ?_
          refine ra_callVV (rest := []) E (c_X6_finish _ (isOrder_of h0 g10) _ _ _ h) (lq_X6 _) cv_X6_finish ml_X2_267 (by decide) (lm (isOrder_of h0 g10).lt) (fun R => ⟨_, cel_order tc ad (isOrder_of h0 g10) R⟩) rfl rfl rfl (Nat.le_of_ble_eq_true rfl) ⟨Nat.le_of_ble_eq_true rfl, Nat.le_of_ble_eq_true rfl⟩ ⟨Nat.zero_le _, Nat.zero_le _⟩ dX2_expireOrders_52 (fun M11 h => ?_)
          refine ra_aload_n E dX2_expireOrders_55 rfl 0 rfl ?_
          refine ra_dup E dX2_expireOrders_56 rfl ?_
          refine gf_X2_9 E h0 fl_X2_49 dX2_expireOrders_57 ?_
          refine ra_iconst E dX2_expireOrders_60 ki_2 ?_
          refine ra_isub E dX2_expireOrders_61 ?_
          refine pf_X2_9 E h0 fl_X2_49 dX2_expireOrders_62 ?_
          replace h := h _ rfl
          refine ra_aload_n E dX2_expireOrders_65 rfl 0 rfl ?_
          refine ra_dup E dX2_expireOrders_66 rfl ?_
          refine gf_X2_13 E h0 fl_X2_61 dX2_expireOrders_67 ?_
          refine ra_iconst E dX2_expireOrders_70 ki_1 ?_
          refine ra_iadd E dX2_expireOrders_71 ?_
          refine pf_X2_13 E h0 fl_X2_61 dX2_expireOrders_72 ?_
          replace h := h _ rfl
          refine ra_iinc1 (L' := [(1, _), (0, _)]) E dX2_expireOrders_75 1 rfl (by decide) rfl ?_
          refine ra_goto (tgt := 2) E dX2_expireOrders_78 (by decide) ?_
          exact ra_sub (L' := [(0, _), (1, _)]) [1, 0] rfl (ih _ _ h)
def f_X2_expireOrders (a0 : Nat) (M : TM) (K : TM → Prop) : Prop := ∃ n, f_X2_expireOrders_L2 a0 K n (0 : Int32) M
set_option maxRecDepth 100000 in
set_option maxHeartbeats 4000000 in
theorem c_X2_expireOrders {ad : Nat → Nat} (a0 : Nat) (h0 : IsCanal a0) (M : TM) (K : TM → Prop) (h : f_X2_expireOrders a0 M K) : MV yX2_expireOrders cX2_expireOrders 2 2 ad [.ref (ad a0)] M K := by
  refine MV_of RX2 rfl (by decide +kernel) (Nat.le_of_ble_eq_true rfl) (fun p l e s m below meth c D tc E hr => ?_)
  unfold f_X2_expireOrders at h
  refine ra_iconst E dX2_expireOrders_0 ki_0 ?_
  refine ra_istore_n (L' := [(1, _), (0, _)]) E dX2_expireOrders_1 rfl (by decide) rfl ?_
  obtain ⟨n14, h⟩ := h
  exact ra_sub (L' := [(0, _), (1, _)]) [1, 0] rfl (l_X2_expireOrders_L2 a0 h0 E hr n14 _ _ h)
def f_X5_remember_L24 (a1 : Nat) (K : TM → Prop)  (M : TM) : Prop := vp_in (M 25 1) 8 ∧ f_X2_copyFrom (27 + 61 * (M 25 1).toNatClampNeg) a1 M (fun M4 => ∀ M5, M5 = u2 M4 25 1 ((M4 25 1) + (1 : Int32)) → ∀ M6, M6 = u2 M5 25 2 (if (8 : Int32) < ((M5 25 2) + (1 : Int32)) then (8 : Int32) else ((M5 25 2) + (1 : Int32))) → K M6)
set_option maxRecDepth 100000 in
set_option maxHeartbeats 4000000 in
theorem l_X5_remember_L24 {p : Program} {l : Launch} {e : Env} {s : State} {m : MethodId} {args : Array Value} {below : List Frame} {meth : Method} {c : Code} {D : va_G} {tc : Nat → ClassId} {ad : Nat → Nat} (a1 : Nat) (h1 : IsCanal a1) {K : TM → Prop} (E : Ev p s m args meth c D tc ad RX5 cX5_remember 2) (hr : meth.sig.returnType = none) : ∀  (M : TM) , f_X5_remember_L24 a1 K  M → Wa p l e (rmD 3) s m args below meth c 0 0 (MQ below (va_Qv K (EndW D tc ad) (A0 ad s.heap.size)) args s 0 0 (A0 ad s.heap.size)) D tc ad 2 M 24 [(0, .ref (ad 25)), (1, .ref (ad a1))] [] := by
  intro  M  h
  unfold f_X5_remember_L24 at h
  refine ra_aload_n E dX5_remember_24 rfl 0 rfl ?_
  refine gf_X5_0 E fl_X5_11 dX5_remember_25 ?_
  refine ra_aload_n E dX5_remember_28 rfl 0 rfl ?_
  refine gf_X5_1 E fl_X5_17 dX5_remember_29 ?_
  obtain ⟨g3, h⟩ := h
  refine ra_aald E (lm (by decide)) (cel_26 tc ad) rfl g3 dX5_remember_32 ?_
  refine ra_aload_n E dX5_remember_33 rfl 1 rfl ?_
  refine ra_callVV (rest := []) E (c_X2_copyFrom _ (isRing_of g3) _ h1 _ _ h) (lq_X2 _) cv_X2_copyFrom ml_X5_25 (by decide) (lm ((isRing_of g3).add (j := 0) (by decide))) (fun R => ⟨_, cel_canal tc ad (isRing_of g3) R⟩) rfl rfl rfl (Nat.le_of_ble_eq_true rfl) ⟨Nat.le_of_ble_eq_true rfl, Nat.le_of_ble_eq_true rfl⟩ ⟨Nat.zero_le _, Nat.zero_le _⟩ dX5_remember_34 (fun M4 h => ?_)
  refine ra_aload_n E dX5_remember_37 rfl 0 rfl ?_
  refine ra_dup E dX5_remember_38 rfl ?_
  refine gf_X5_1 E fl_X5_17 dX5_remember_39 ?_
  refine ra_iconst E dX5_remember_42 ki_1 ?_
  refine ra_iadd E dX5_remember_43 ?_
  refine pf_X5_1 E fl_X5_17 dX5_remember_44 ?_
  replace h := h _ rfl
  refine ra_aload_n E dX5_remember_47 rfl 0 rfl ?_
  refine ra_aload_n E dX5_remember_48 rfl 0 rfl ?_
  refine gf_X5_2 E fl_X5_21 dX5_remember_49 ?_
  refine ra_iconst E dX5_remember_52 ki_1 ?_
  refine ra_iadd E dX5_remember_53 ?_
  refine ra_aload_n E dX5_remember_54 rfl 0 rfl ?_
  refine gf_X5_0 E fl_X5_11 dX5_remember_55 ?_
  refine ra_alen (n := 8) (v := 8) E (lm (by decide)) (fun R => ⟨_, (cel_26 tc ad) R, rfl⟩) rfl (by decide) dX5_remember_58 ?_
  refine ra_mmin E ml_X5_29 ⟨Nat.le_of_ble_eq_true rfl, Nat.le_of_ble_eq_true rfl⟩ ⟨Nat.zero_le _, Nat.zero_le _⟩ dX5_remember_59 ?_
  refine pf_X5_2 E fl_X5_21 dX5_remember_62 ?_
  replace h := h _ rfl
  exact ra_vret E hr dX5_remember_65 h
def f_X5_remember_L19 (a1 : Nat) (K : TM → Prop)  (M : TM) : Prop := ∀ M2, M2 = u2 M 25 1 (0 : Int32) → f_X5_remember_L24 a1 K M2
set_option maxRecDepth 100000 in
set_option maxHeartbeats 4000000 in
theorem l_X5_remember_L19 {p : Program} {l : Launch} {e : Env} {s : State} {m : MethodId} {args : Array Value} {below : List Frame} {meth : Method} {c : Code} {D : va_G} {tc : Nat → ClassId} {ad : Nat → Nat} (a1 : Nat) (h1 : IsCanal a1) {K : TM → Prop} (E : Ev p s m args meth c D tc ad RX5 cX5_remember 2) (hr : meth.sig.returnType = none) : ∀  (M : TM) , f_X5_remember_L19 a1 K  M → Wa p l e (rmD 3) s m args below meth c 0 0 (MQ below (va_Qv K (EndW D tc ad) (A0 ad s.heap.size)) args s 0 0 (A0 ad s.heap.size)) D tc ad 2 M 19 [(0, .ref (ad 25)), (1, .ref (ad a1))] [] := by
  intro  M  h
  unfold f_X5_remember_L19 at h
  refine ra_aload_n E dX5_remember_19 rfl 0 rfl ?_
  refine ra_iconst E dX5_remember_20 ki_0 ?_
  refine pf_X5_1 E fl_X5_17 dX5_remember_21 ?_
  replace h := h _ rfl
  exact ra_sub (L' := [(0, _), (1, _)]) [0, 1] rfl (l_X5_remember_L24 a1 h1 E hr _ h)
def f_X5_remember (a1 : Nat) (M : TM) (K : TM → Prop) : Prop := (((M 25 1) < 0 → f_X5_remember_L19 a1 K M) ∧ (¬ (M 25 1) < 0 → (((M 25 1) < (8 : Int32) → f_X5_remember_L24 a1 K M) ∧ (¬ (M 25 1) < (8 : Int32) → f_X5_remember_L19 a1 K M))))
set_option maxRecDepth 100000 in
set_option maxHeartbeats 4000000 in
theorem c_X5_remember {ad : Nat → Nat} (a1 : Nat) (h1 : IsCanal a1) (M : TM) (K : TM → Prop) (h : f_X5_remember a1 M K) : MV yX5_remember cX5_remember 2 3 ad [.ref (ad 25), .ref (ad a1)] M K := by
  refine MV_of RX5 rfl (by decide +kernel) (Nat.le_of_ble_eq_true rfl) (fun p l e s m below meth c D tc E hr => ?_)
  unfold f_X5_remember at h
  refine ra_aload_n E dX5_remember_0 rfl 0 rfl ?_
  refine gf_X5_1 E fl_X5_17 dX5_remember_1 ?_
  refine ra_if_lt (tgt := 19) E dX5_remember_4 (by decide) (fun q1 => ?_) (fun q1 => ?_)
  · replace h := h.1 q1
    exact ra_sub (L' := [(0, _), (1, _)]) [0, 1] rfl (l_X5_remember_L19 a1 h1 E hr _ h)
  · replace h := h.2 q1
    refine ra_aload_n E dX5_remember_7 rfl 0 rfl ?_
    refine gf_X5_1 E fl_X5_17 dX5_remember_8 ?_
    refine ra_aload_n E dX5_remember_11 rfl 0 rfl ?_
    refine gf_X5_0 E fl_X5_11 dX5_remember_12 ?_
    refine ra_alen (n := 8) (v := 8) E (lm (by decide)) (fun R => ⟨_, (cel_26 tc ad) R, rfl⟩) rfl (by decide) dX5_remember_15 ?_
    refine ra_icmp_lt (tgt := 24) E dX5_remember_16 (by decide) (fun q7 => ?_) (fun q7 => ?_)
    · replace h := h.1 q7
      exact ra_sub (L' := [(0, _), (1, _)]) [0, 1] rfl (l_X5_remember_L24 a1 h1 E hr _ h)
    · replace h := h.2 q7
      exact ra_sub (L' := [(0, _), (1, _)]) [0, 1] rfl (l_X5_remember_L19 a1 h1 E hr _ h)
def f_X5_takeBack_L46 (a1 : Nat) (K : TM → Prop) (z0 : Int32) (M : TM) : Prop := ∀ M3, M3 = u2 M 25 1 z0 → vp_in (M3 25 1) 8 ∧ f_X2_copyFrom a1 (27 + 61 * (M3 25 1).toNatClampNeg) M3 (fun M5 => ∀ M6, M6 = u2 M5 25 2 ((M5 25 2) - (1 : Int32)) → K M6)
set_option maxRecDepth 100000 in
set_option maxHeartbeats 4000000 in
theorem l_X5_takeBack_L46 {p : Program} {l : Launch} {e : Env} {s : State} {m : MethodId} {args : Array Value} {below : List Frame} {meth : Method} {c : Code} {D : va_G} {tc : Nat → ClassId} {ad : Nat → Nat} (a1 : Nat) (h1 : IsCanal a1) {K : TM → Prop} (E : Ev p s m args meth c D tc ad RX5 cX5_takeBack 2) (hr : meth.sig.returnType = none) : ∀ (z0 : Int32) (M : TM) , f_X5_takeBack_L46 a1 K z0 M → Wa p l e (rmD 3) s m args below meth c 0 0 (MQ below (va_Qv K (EndW D tc ad) (A0 ad s.heap.size)) args s 0 0 (A0 ad s.heap.size)) D tc ad 2 M 46 [(0, .ref (ad 25)), (1, .ref (ad a1))] [.int z0, .ref (ad 25)] := by
  intro z0 M  h
  unfold f_X5_takeBack_L46 at h
  refine pf_X5_1 E fl_X5_17 dX5_takeBack_46 ?_
  replace h := h _ rfl
  refine ra_aload_n E dX5_takeBack_49 rfl 1 rfl ?_
  refine ra_aload_n E dX5_takeBack_50 rfl 0 rfl ?_
  refine gf_X5_0 E fl_X5_11 dX5_takeBack_51 ?_
  refine ra_aload_n E dX5_takeBack_54 rfl 0 rfl ?_
  refine gf_X5_1 E fl_X5_17 dX5_takeBack_55 ?_
  obtain ⟨g4, h⟩ := h
  refine ra_aald E (lm (by decide)) (cel_26 tc ad) rfl g4 dX5_takeBack_58 ?_
  refine ra_callVV (rest := []) E (c_X2_copyFrom _ h1 _ (isRing_of g4) _ _ h) (lq_X2 _) cv_X2_copyFrom ml_X5_25 (by decide) (lm (h1.add (j := 0) (by decide))) (fun R => ⟨_, cel_canal tc ad h1 R⟩) rfl rfl rfl (Nat.le_of_ble_eq_true rfl) ⟨Nat.le_of_ble_eq_true rfl, Nat.le_of_ble_eq_true rfl⟩ ⟨Nat.zero_le _, Nat.zero_le _⟩ dX5_takeBack_59 (fun M5 h => ?_)
  refine ra_aload_n E dX5_takeBack_62 rfl 0 rfl ?_
  refine ra_dup E dX5_takeBack_63 rfl ?_
  refine gf_X5_2 E fl_X5_21 dX5_takeBack_64 ?_
  refine ra_iconst E dX5_takeBack_67 ki_1 ?_
  refine ra_isub E dX5_takeBack_68 ?_
  refine pf_X5_2 E fl_X5_21 dX5_takeBack_69 ?_
  replace h := h _ rfl
  exact ra_vret E hr dX5_takeBack_72 h
def f_X5_takeBack_L30 (a1 : Nat) (K : TM → Prop)  (M : TM) : Prop := f_X5_takeBack_L46 a1 K ((8 : Int32) - (1 : Int32)) M
set_option maxRecDepth 100000 in
set_option maxHeartbeats 4000000 in
theorem l_X5_takeBack_L30 {p : Program} {l : Launch} {e : Env} {s : State} {m : MethodId} {args : Array Value} {below : List Frame} {meth : Method} {c : Code} {D : va_G} {tc : Nat → ClassId} {ad : Nat → Nat} (a1 : Nat) (h1 : IsCanal a1) {K : TM → Prop} (E : Ev p s m args meth c D tc ad RX5 cX5_takeBack 2) (hr : meth.sig.returnType = none) : ∀  (M : TM) , f_X5_takeBack_L30 a1 K  M → Wa p l e (rmD 3) s m args below meth c 0 0 (MQ below (va_Qv K (EndW D tc ad) (A0 ad s.heap.size)) args s 0 0 (A0 ad s.heap.size)) D tc ad 2 M 30 [(0, .ref (ad 25)), (1, .ref (ad a1))] [.ref (ad 25)] := by
  intro  M  h
  unfold f_X5_takeBack_L30 at h
  refine ra_aload_n E dX5_takeBack_30 rfl 0 rfl ?_
  refine gf_X5_0 E fl_X5_11 dX5_takeBack_31 ?_
  refine ra_alen (n := 8) (v := 8) E (lm (by decide)) (fun R => ⟨_, (cel_26 tc ad) R, rfl⟩) rfl (by decide) dX5_takeBack_34 ?_
  refine ra_iconst E dX5_takeBack_35 ki_1 ?_
  refine ra_isub E dX5_takeBack_36 ?_
  refine ra_goto (tgt := 46) E dX5_takeBack_37 (by decide) ?_
  exact ra_sub (L' := [(0, _), (1, _)]) [0, 1] rfl (l_X5_takeBack_L46 a1 h1 E hr _ _ h)
def f_X5_takeBack (a1 : Nat) (M : TM) (K : TM → Prop) : Prop := (((1 : Int32) ≤ (M 25 2) → (((M 25 1) < (1 : Int32) → f_X5_takeBack_L30 a1 K M) ∧ (¬ (M 25 1) < (1 : Int32) → (((M 25 1) ≤ (8 : Int32) → f_X5_takeBack_L46 a1 K ((M 25 1) - (1 : Int32)) M) ∧ (¬ (M 25 1) ≤ (8 : Int32) → f_X5_takeBack_L30 a1 K M))))) ∧ (¬ (1 : Int32) ≤ (M 25 2) → K M))
set_option maxRecDepth 100000 in
set_option maxHeartbeats 4000000 in
theorem c_X5_takeBack {ad : Nat → Nat} (a1 : Nat) (h1 : IsCanal a1) (M : TM) (K : TM → Prop) (h : f_X5_takeBack a1 M K) : MV yX5_takeBack cX5_takeBack 2 3 ad [.ref (ad 25), .ref (ad a1)] M K := by
  refine MV_of RX5 rfl (by decide +kernel) (Nat.le_of_ble_eq_true rfl) (fun p l e s m below meth c D tc E hr => ?_)
  unfold f_X5_takeBack at h
  refine ra_aload_n E dX5_takeBack_0 rfl 0 rfl ?_
  refine gf_X5_2 E fl_X5_21 dX5_takeBack_1 ?_
  refine ra_iconst E dX5_takeBack_4 ki_1 ?_
  refine ra_icmp_ge (tgt := 9) E dX5_takeBack_5 (by decide) (fun q1 => ?_) (fun q1 => ?_)
  · replace h := h.1 q1
    refine ra_aload_n E dX5_takeBack_9 rfl 0 rfl ?_
    refine ra_aload_n E dX5_takeBack_10 rfl 0 rfl ?_
    refine gf_X5_1 E fl_X5_17 dX5_takeBack_11 ?_
    refine ra_iconst E dX5_takeBack_14 ki_1 ?_
    refine ra_icmp_lt (tgt := 30) E dX5_takeBack_15 (by decide) (fun q2 => ?_) (fun q2 => ?_)
    · replace h := h.1 q2
      exact ra_sub (L' := [(0, _), (1, _)]) [0, 1] rfl (l_X5_takeBack_L30 a1 h1 E hr _ h)
    · replace h := h.2 q2
      refine ra_aload_n E dX5_takeBack_18 rfl 0 rfl ?_
      refine gf_X5_1 E fl_X5_17 dX5_takeBack_19 ?_
      refine ra_aload_n E dX5_takeBack_22 rfl 0 rfl ?_
      refine gf_X5_0 E fl_X5_11 dX5_takeBack_23 ?_
      refine ra_alen (n := 8) (v := 8) E (lm (by decide)) (fun R => ⟨_, (cel_26 tc ad) R, rfl⟩) rfl (by decide) dX5_takeBack_26 ?_
      refine ra_icmp_le (tgt := 40) E dX5_takeBack_27 (by decide) (fun q7 => ?_) (fun q7 => ?_)
      · replace h := h.1 q7
        refine ra_aload_n E dX5_takeBack_40 rfl 0 rfl ?_
        refine gf_X5_1 E fl_X5_17 dX5_takeBack_41 ?_
        refine ra_iconst E dX5_takeBack_44 ki_1 ?_
        refine ra_isub E dX5_takeBack_45 ?_
        exact ra_sub (L' := [(0, _), (1, _)]) [0, 1] rfl (l_X5_takeBack_L46 a1 h1 E hr _ _ h)
      · replace h := h.2 q7
        exact ra_sub (L' := [(0, _), (1, _)]) [0, 1] rfl (l_X5_takeBack_L30 a1 h1 E hr _ h)
  · replace h := h.2 q1
    exact ra_vret E hr dX5_takeBack_8 h
def f_X6_reset (a0 : Nat) (p1 : Int32) (p2 : Int32) (p3 : Int32) (p4 : Int32) (M : TM) (K : TM → Prop) : Prop := ∀ M1, M1 = u2 M a0 0 p1 → ∀ M2, M2 = u2 M1 a0 1 p2 → ∀ M3, M3 = u2 M2 a0 2 p3 → ∀ M4, M4 = u2 M3 a0 4 p4 → f_X6_open a0 M4 (fun M5 => K M5)
set_option maxRecDepth 100000 in
set_option maxHeartbeats 4000000 in
theorem c_X6_reset {ad : Nat → Nat} (a0 : Nat) (h0 : IsOrder a0) (p1 : Int32) (p2 : Int32) (p3 : Int32) (p4 : Int32) (M : TM) (K : TM → Prop) (h : f_X6_reset a0 p1 p2 p3 p4 M K) : MV yX6_reset cX6_reset 5 1 ad [.ref (ad a0), .int p1, .int p2, .int p3, .int p4] M K := by
  refine MV_of RX6 rfl (by decide +kernel) (Nat.le_of_ble_eq_true rfl) (fun p l e s m below meth c D tc E hr => ?_)
  unfold f_X6_reset at h
  refine ra_aload_n E dX6_reset_0 rfl 0 rfl ?_
  refine ra_iload_n E dX6_reset_1 rfl 1 rfl ?_
  refine pf_X6_0 E h0 fl_X6_9 dX6_reset_2 ?_
  replace h := h _ rfl
  refine ra_aload_n E dX6_reset_5 rfl 0 rfl ?_
  refine ra_iload_n E dX6_reset_6 rfl 2 rfl ?_
  refine pf_X6_1 E h0 fl_X6_15 dX6_reset_7 ?_
  replace h := h _ rfl
  refine ra_aload_n E dX6_reset_10 rfl 0 rfl ?_
  refine ra_iload_n E dX6_reset_11 rfl 3 rfl ?_
  refine pf_X6_2 E h0 fl_X6_18 dX6_reset_12 ?_
  replace h := h _ rfl
  refine ra_aload_n E dX6_reset_15 rfl 0 rfl ?_
  refine ra_iload E dX6_reset_16 4 rfl ?_
  refine pf_X6_4 E h0 fl_X6_24 dX6_reset_18 ?_
  replace h := h _ rfl
  refine ra_aload_n E dX6_reset_21 rfl 0 rfl ?_
  refine ra_callVV (rest := []) E (c_X6_open _ h0 _ _ h) (lq_X6 _) cv_X6_open ml_X6_43 (by decide) (lm h0.lt) (fun R => ⟨_, cel_order tc ad h0 R⟩) rfl rfl rfl (Nat.le_of_ble_eq_true rfl) ⟨Nat.le_of_ble_eq_true rfl, Nat.le_of_ble_eq_true rfl⟩ ⟨Nat.zero_le _, Nat.zero_le _⟩ dX6_reset_22 (fun M5 h => ?_)
  exact ra_vret E hr dX6_reset_25 h
def f_X8_isPossible (a0 : Nat) (a1 : Nat) (M : TM) (K : Int32 → TM → Prop) : Prop := vp_in (M a1 0) 9 ∧ vp_in (M a1 0) 9 ∧ ((((M a1 0) + 1) = 1 → f_X2_canSail a0 (M a1 1) (M a1 2) M (fun r5 M4 => K r5 M4)) ∧ (((M a1 0) + 1) = 2 → f_X2_canAddOrder a0 (M a1 1) M (fun r8 M7 => K r8 M7)) ∧ (((M a1 0) + 1) = 3 → f_X2_canGive a0 (M a1 1) (M a1 2) M (fun r11 M10 => K r11 M10)) ∧ (((M a1 0) + 1) = 4 → f_X2_canReopen a0 (M a1 1) M (fun r14 M13 => K r14 M13)) ∧ (((M a1 0) + 1) = 5 → f_X2_canLoadFlour a0 (M a1 1) (M a1 2) M (fun r17 M16 => K r17 M16)) ∧ (((M a1 0) + 1) = 6 → f_X2_canGather a0 (M a1 1) M (fun r20 M19 => K r20 M19)) ∧ (((M a1 0) + 1) = 7 → f_X2_isInHarbor a0 (M a1 1) M (fun r23 M22 => K r23 M22)) ∧ (((M a1 0) + 1) = 8 → f_X2_canPass a0 (M a1 1) M (fun r26 M25 => K r26 M25)) ∧ (¬ ((M a1 0) + 1) = 1 → ¬ ((M a1 0) + 1) = 2 → ¬ ((M a1 0) + 1) = 3 → ¬ ((M a1 0) + 1) = 4 → ¬ ((M a1 0) + 1) = 5 → ¬ ((M a1 0) + 1) = 6 → ¬ ((M a1 0) + 1) = 7 → ¬ ((M a1 0) + 1) = 8 → K (0 : Int32) M))
set_option maxRecDepth 100000 in
set_option maxHeartbeats 4000000 in
theorem c_X8_isPossible {ad : Nat → Nat} (a0 : Nat) (h0 : IsCanal a0) (a1 : Nat) (h1 : IsCmd a1) (M : TM) (K : Int32 → TM → Prop) (h : f_X8_isPossible a0 a1 M K) : MI yX8_isPossible cX8_isPossible 2 (some .boolean) 4 ad [.ref (ad a0), .ref (ad a1)] M (fun r M' => (r = 0 ∨ r = 1) ∧ K r M') := by
  refine MI_of RX8 rfl (by decide +kernel) (Nat.le_of_ble_eq_true rfl) (fun p l e s m below meth c D tc E hr => ?_)
  unfold f_X8_isPossible at h
  refine gs_smap E fl_X8_85 dX8_isPossible_0 ?_
  refine ra_aload_n E dX8_isPossible_3 rfl 1 rfl ?_
  refine gf_X4_0 E h1 fl_X8_63 dX8_isPossible_4 ?_
  obtain ⟨g1, h⟩ := h
  refine ra_ordinal E g1 ml_X8_91 (Nat.le_of_ble_eq_true rfl) ⟨Nat.le_of_ble_eq_true rfl, Nat.le_of_ble_eq_true rfl⟩ ⟨Nat.zero_le _, Nat.zero_le _⟩ dX8_isPossible_7 ?_
  obtain ⟨g2, h⟩ := h
  refine ia_smap E g2 dX8_isPossible_10 ?_
  by_cases q3_0 : ((M a1 0) + 1) = 1
  · replace h := h.1 q3_0
    refine ra_tableIn (tgt := 56) (off := 45) E dX8_isPossible_11 (by rw [q3_0]; decide) (by rw [q3_0]; decide) (by rw [q3_0]; decide) (by decide) ?_
    refine ra_aload_n E dX8_isPossible_56 rfl 0 rfl ?_
    refine ra_aload_n E dX8_isPossible_57 rfl 1 rfl ?_
    refine gf_X4_1 E h1 fl_X8_99 dX8_isPossible_58 ?_
    refine ra_aload_n E dX8_isPossible_61 rfl 1 rfl ?_
    refine gf_X4_2 E h1 fl_X8_102 dX8_isPossible_62 ?_
    refine ra_callIV (rest := []) E (c_X2_canSail _ h0 _ _ _ _ h) (lq_X2 _) cv_X2_canSail ml_X8_127 (by decide) (lm (h0.add (j := 0) (by decide))) (fun R => ⟨_, cel_canal tc ad h0 R⟩) rfl rfl rfl (Nat.le_of_ble_eq_true rfl) ⟨Nat.le_of_ble_eq_true rfl, Nat.le_of_ble_eq_true rfl⟩ ⟨Nat.zero_le _, Nat.zero_le _⟩ dX8_isPossible_65 (fun r29 M28 h => ?_)
    obtain ⟨b30, h⟩ := h
    exact ra_zret E hr (nz_01 b30) dX8_isPossible_68 ⟨b30, h⟩
  by_cases q3_1 : ((M a1 0) + 1) = 2
  · replace h := h.2.1 q3_1
    refine ra_tableIn (tgt := 69) (off := 58) E dX8_isPossible_11 (by rw [q3_1]; decide) (by rw [q3_1]; decide) (by rw [q3_1]; decide) (by decide) ?_
    refine ra_aload_n E dX8_isPossible_69 rfl 0 rfl ?_
    refine ra_aload_n E dX8_isPossible_70 rfl 1 rfl ?_
    refine gf_X4_1 E h1 fl_X8_99 dX8_isPossible_71 ?_
    refine ra_callIV (rest := []) E (c_X2_canAddOrder _ h0 _ _ _ h) (lq_X2 _) cv_X2_canAddOrder ml_X8_133 (by decide) (lm (h0.add (j := 0) (by decide))) (fun R => ⟨_, cel_canal tc ad h0 R⟩) rfl rfl rfl (Nat.le_of_ble_eq_true rfl) ⟨Nat.le_of_ble_eq_true rfl, Nat.le_of_ble_eq_true rfl⟩ ⟨Nat.zero_le _, Nat.zero_le _⟩ dX8_isPossible_74 (fun r32 M31 h => ?_)
    obtain ⟨b33, h⟩ := h
    exact ra_zret E hr (nz_01 b33) dX8_isPossible_77 ⟨b33, h⟩
  by_cases q3_2 : ((M a1 0) + 1) = 3
  · replace h := h.2.2.1 q3_2
    refine ra_tableIn (tgt := 78) (off := 67) E dX8_isPossible_11 (by rw [q3_2]; decide) (by rw [q3_2]; decide) (by rw [q3_2]; decide) (by decide) ?_
    refine ra_aload_n E dX8_isPossible_78 rfl 0 rfl ?_
    refine ra_aload_n E dX8_isPossible_79 rfl 1 rfl ?_
    refine gf_X4_1 E h1 fl_X8_99 dX8_isPossible_80 ?_
    refine ra_aload_n E dX8_isPossible_83 rfl 1 rfl ?_
    refine gf_X4_2 E h1 fl_X8_102 dX8_isPossible_84 ?_
    refine ra_callIV (rest := []) E (c_X2_canGive _ h0 _ _ _ _ h) (lq_X2 _) cv_X2_canGive ml_X8_136 (by decide) (lm (h0.add (j := 0) (by decide))) (fun R => ⟨_, cel_canal tc ad h0 R⟩) rfl rfl rfl (Nat.le_of_ble_eq_true rfl) ⟨Nat.le_of_ble_eq_true rfl, Nat.le_of_ble_eq_true rfl⟩ ⟨Nat.zero_le _, Nat.zero_le _⟩ dX8_isPossible_87 (fun r35 M34 h => ?_)
    obtain ⟨b36, h⟩ := h
    exact ra_zret E hr (nz_01 b36) dX8_isPossible_90 ⟨b36, h⟩
  by_cases q3_3 : ((M a1 0) + 1) = 4
  · replace h := h.2.2.2.1 q3_3
    refine ra_tableIn (tgt := 91) (off := 80) E dX8_isPossible_11 (by rw [q3_3]; decide) (by rw [q3_3]; decide) (by rw [q3_3]; decide) (by decide) ?_
    refine ra_aload_n E dX8_isPossible_91 rfl 0 rfl ?_
    refine ra_aload_n E dX8_isPossible_92 rfl 1 rfl ?_
    refine gf_X4_1 E h1 fl_X8_99 dX8_isPossible_93 ?_
    refine ra_callIV (rest := []) E (c_X2_canReopen _ h0 _ _ _ h) (lq_X2 _) cv_X2_canReopen ml_X8_139 (by decide) (lm (h0.add (j := 0) (by decide))) (fun R => ⟨_, cel_canal tc ad h0 R⟩) rfl rfl rfl (Nat.le_of_ble_eq_true rfl) ⟨Nat.le_of_ble_eq_true rfl, Nat.le_of_ble_eq_true rfl⟩ ⟨Nat.zero_le _, Nat.zero_le _⟩ dX8_isPossible_96 (fun r38 M37 h => ?_)
    obtain ⟨b39, h⟩ := h
    exact ra_zret E hr (nz_01 b39) dX8_isPossible_99 ⟨b39, h⟩
  by_cases q3_4 : ((M a1 0) + 1) = 5
  · replace h := h.2.2.2.2.1 q3_4
    refine ra_tableIn (tgt := 100) (off := 89) E dX8_isPossible_11 (by rw [q3_4]; decide) (by rw [q3_4]; decide) (by rw [q3_4]; decide) (by decide) ?_
    refine ra_aload_n E dX8_isPossible_100 rfl 0 rfl ?_
    refine ra_aload_n E dX8_isPossible_101 rfl 1 rfl ?_
    refine gf_X4_1 E h1 fl_X8_99 dX8_isPossible_102 ?_
    refine ra_aload_n E dX8_isPossible_105 rfl 1 rfl ?_
    refine gf_X4_2 E h1 fl_X8_102 dX8_isPossible_106 ?_
    refine ra_callIV (rest := []) E (c_X2_canLoadFlour _ h0 _ _ _ _ h) (lq_X2 _) cv_X2_canLoadFlour ml_X8_142 (by decide) (lm (h0.add (j := 0) (by decide))) (fun R => ⟨_, cel_canal tc ad h0 R⟩) rfl rfl rfl (Nat.le_of_ble_eq_true rfl) ⟨Nat.le_of_ble_eq_true rfl, Nat.le_of_ble_eq_true rfl⟩ ⟨Nat.zero_le _, Nat.zero_le _⟩ dX8_isPossible_109 (fun r41 M40 h => ?_)
    obtain ⟨b42, h⟩ := h
    exact ra_zret E hr (nz_01 b42) dX8_isPossible_112 ⟨b42, h⟩
  by_cases q3_5 : ((M a1 0) + 1) = 6
  · replace h := h.2.2.2.2.2.1 q3_5
    refine ra_tableIn (tgt := 113) (off := 102) E dX8_isPossible_11 (by rw [q3_5]; decide) (by rw [q3_5]; decide) (by rw [q3_5]; decide) (by decide) ?_
    refine ra_aload_n E dX8_isPossible_113 rfl 0 rfl ?_
    refine ra_aload_n E dX8_isPossible_114 rfl 1 rfl ?_
    refine gf_X4_1 E h1 fl_X8_99 dX8_isPossible_115 ?_
    refine ra_callIV (rest := []) E (c_X2_canGather _ h0 _ _ _ h) (lq_X2 _) cv_X2_canGather ml_X8_145 (by decide) (lm (h0.add (j := 0) (by decide))) (fun R => ⟨_, cel_canal tc ad h0 R⟩) rfl rfl rfl (Nat.le_of_ble_eq_true rfl) ⟨Nat.le_of_ble_eq_true rfl, Nat.le_of_ble_eq_true rfl⟩ ⟨Nat.zero_le _, Nat.zero_le _⟩ dX8_isPossible_118 (fun r44 M43 h => ?_)
    obtain ⟨b45, h⟩ := h
    exact ra_zret E hr (nz_01 b45) dX8_isPossible_121 ⟨b45, h⟩
  by_cases q3_6 : ((M a1 0) + 1) = 7
  · replace h := h.2.2.2.2.2.2.1 q3_6
    refine ra_tableIn (tgt := 122) (off := 111) E dX8_isPossible_11 (by rw [q3_6]; decide) (by rw [q3_6]; decide) (by rw [q3_6]; decide) (by decide) ?_
    refine ra_aload_n E dX8_isPossible_122 rfl 0 rfl ?_
    refine ra_aload_n E dX8_isPossible_123 rfl 1 rfl ?_
    refine gf_X4_1 E h1 fl_X8_99 dX8_isPossible_124 ?_
    refine ra_callIV (rest := []) E (c_X2_isInHarbor _ h0 _ _ _ h) (lq_X2 _) cv_X2_isInHarbor ml_X8_148 (by decide) (lm (h0.add (j := 0) (by decide))) (fun R => ⟨_, cel_canal tc ad h0 R⟩) rfl rfl rfl (Nat.le_of_ble_eq_true rfl) ⟨Nat.le_of_ble_eq_true rfl, Nat.le_of_ble_eq_true rfl⟩ ⟨Nat.zero_le _, Nat.zero_le _⟩ dX8_isPossible_127 (fun r47 M46 h => ?_)
    obtain ⟨b48, h⟩ := h
    exact ra_zret E hr (nz_01 b48) dX8_isPossible_130 ⟨b48, h⟩
  by_cases q3_7 : ((M a1 0) + 1) = 8
  · replace h := h.2.2.2.2.2.2.2.1 q3_7
    refine ra_tableIn (tgt := 131) (off := 120) E dX8_isPossible_11 (by rw [q3_7]; decide) (by rw [q3_7]; decide) (by rw [q3_7]; decide) (by decide) ?_
    refine ra_aload_n E dX8_isPossible_131 rfl 0 rfl ?_
    refine ra_aload_n E dX8_isPossible_132 rfl 1 rfl ?_
    refine gf_X4_1 E h1 fl_X8_99 dX8_isPossible_133 ?_
    refine ra_callIV (rest := []) E (c_X2_canPass _ h0 _ _ _ h) (lq_X2 _) cv_X2_canPass ml_X8_151 (by decide) (lm (h0.add (j := 0) (by decide))) (fun R => ⟨_, cel_canal tc ad h0 R⟩) rfl rfl rfl (Nat.le_of_ble_eq_true rfl) ⟨Nat.le_of_ble_eq_true rfl, Nat.le_of_ble_eq_true rfl⟩ ⟨Nat.zero_le _, Nat.zero_le _⟩ dX8_isPossible_136 (fun r50 M49 h => ?_)
    obtain ⟨b51, h⟩ := h
    exact ra_zret E hr (nz_01 b51) dX8_isPossible_139 ⟨b51, h⟩
  replace h := h.2.2.2.2.2.2.2.2 q3_0 q3_1 q3_2 q3_3 q3_4 q3_5 q3_6 q3_7
  refine ra_tableOut (tgt := 140) E dX8_isPossible_11 (by have := lk_ne q3_0 (by decide : (1 : Int32).toInt = 1); have := lk_ne q3_1 (by decide : (2 : Int32).toInt = 2); have := lk_ne q3_2 (by decide : (3 : Int32).toInt = 3); have := lk_ne q3_3 (by decide : (4 : Int32).toInt = 4); have := lk_ne q3_4 (by decide : (5 : Int32).toInt = 5); have := lk_ne q3_5 (by decide : (6 : Int32).toInt = 6); have := lk_ne q3_6 (by decide : (7 : Int32).toInt = 7); have := lk_ne q3_7 (by decide : (8 : Int32).toInt = 8); omega) (by decide) ?_
  refine ra_iconst E dX8_isPossible_140 ki_0 ?_
  exact ra_zret E hr rfl dX8_isPossible_141 ⟨Or.inl rfl, h⟩
def f_X10_appendInt (p1 : Int32) (M : TM) (K : TM → Prop) : Prop := f_X10_appendByte ((p1.toUInt32 >>> ((24 : Int32).toUInt32 &&& Int32.toUInt32 31)).toInt32) M (fun M1 => f_X10_appendByte ((p1.toUInt32 >>> ((16 : Int32).toUInt32 &&& Int32.toUInt32 31)).toInt32) M1 (fun M2 => f_X10_appendByte ((p1.toUInt32 >>> ((8 : Int32).toUInt32 &&& Int32.toUInt32 31)).toInt32) M2 (fun M3 => f_X10_appendByte p1 M3 (fun M4 => K M4))))
set_option maxRecDepth 100000 in
set_option maxHeartbeats 4000000 in
theorem c_X10_appendInt {ad : Nat → Nat} (p1 : Int32) (M : TM) (K : TM → Prop) (h : f_X10_appendInt p1 M K) : MV yX10_appendInt cX10_appendInt 2 1 ad [.ref (ad 1), .int p1] M K := by
  refine MV_of RX10 rfl (by decide +kernel) (Nat.le_of_ble_eq_true rfl) (fun p l e s m below meth c D tc E hr => ?_)
  unfold f_X10_appendInt at h
  refine ra_aload_n E dX10_appendInt_0 rfl 0 rfl ?_
  refine ra_iload_n E dX10_appendInt_1 rfl 1 rfl ?_
  refine ra_bipush E dX10_appendInt_2 kb_24 ?_
  refine ra_iushr E dX10_appendInt_4 rfl ?_
  refine ra_callVV (rest := []) E (c_X10_appendByte _ _ _ h) (lq_X10 _) cv_X10_appendByte ml_X10_37 (by decide) (lm (by decide)) (fun R => ⟨_, cel_1 tc ad R⟩) rfl rfl rfl (Nat.le_of_ble_eq_true rfl) ⟨Nat.le_of_ble_eq_true rfl, Nat.le_of_ble_eq_true rfl⟩ ⟨Nat.zero_le _, Nat.zero_le _⟩ dX10_appendInt_5 (fun M1 h => ?_)
  refine ra_aload_n E dX10_appendInt_8 rfl 0 rfl ?_
  refine ra_iload_n E dX10_appendInt_9 rfl 1 rfl ?_
  refine ra_bipush E dX10_appendInt_10 kb_16 ?_
  refine ra_iushr E dX10_appendInt_12 rfl ?_
  refine ra_callVV (rest := []) E (c_X10_appendByte _ _ _ h) (lq_X10 _) cv_X10_appendByte ml_X10_37 (by decide) (lm (by decide)) (fun R => ⟨_, cel_1 tc ad R⟩) rfl rfl rfl (Nat.le_of_ble_eq_true rfl) ⟨Nat.le_of_ble_eq_true rfl, Nat.le_of_ble_eq_true rfl⟩ ⟨Nat.zero_le _, Nat.zero_le _⟩ dX10_appendInt_13 (fun M2 h => ?_)
  refine ra_aload_n E dX10_appendInt_16 rfl 0 rfl ?_
  refine ra_iload_n E dX10_appendInt_17 rfl 1 rfl ?_
  refine ra_bipush E dX10_appendInt_18 kb_8 ?_
  refine ra_iushr E dX10_appendInt_20 rfl ?_
  refine ra_callVV (rest := []) E (c_X10_appendByte _ _ _ h) (lq_X10 _) cv_X10_appendByte ml_X10_37 (by decide) (lm (by decide)) (fun R => ⟨_, cel_1 tc ad R⟩) rfl rfl rfl (Nat.le_of_ble_eq_true rfl) ⟨Nat.le_of_ble_eq_true rfl, Nat.le_of_ble_eq_true rfl⟩ ⟨Nat.zero_le _, Nat.zero_le _⟩ dX10_appendInt_21 (fun M3 h => ?_)
  refine ra_aload_n E dX10_appendInt_24 rfl 0 rfl ?_
  refine ra_iload_n E dX10_appendInt_25 rfl 1 rfl ?_
  refine ra_callVV (rest := []) E (c_X10_appendByte _ _ _ h) (lq_X10 _) cv_X10_appendByte ml_X10_37 (by decide) (lm (by decide)) (fun R => ⟨_, cel_1 tc ad R⟩) rfl rfl rfl (Nat.le_of_ble_eq_true rfl) ⟨Nat.le_of_ble_eq_true rfl, Nat.le_of_ble_eq_true rfl⟩ ⟨Nat.zero_le _, Nat.zero_le _⟩ dX10_appendInt_26 (fun M4 h => ?_)
  exact ra_vret E hr dX10_appendInt_29 h
def f_X10_fail (p1 : Int32) (M : TM) (K : TM → Prop) : Prop := f_X10_failAt p1 (M 1 4) M (fun M1 => K M1)
set_option maxRecDepth 100000 in
set_option maxHeartbeats 4000000 in
theorem c_X10_fail {ad : Nat → Nat} (p1 : Int32) (M : TM) (K : TM → Prop) (h : f_X10_fail p1 M K) : MV yX10_fail cX10_fail 2 1 ad [.ref (ad 1), .int p1] M K := by
  refine MV_of RX10 rfl (by decide +kernel) (Nat.le_of_ble_eq_true rfl) (fun p l e s m below meth c D tc E hr => ?_)
  unfold f_X10_fail at h
  refine ra_aload_n E dX10_fail_0 rfl 0 rfl ?_
  refine ra_iload_n E dX10_fail_1 rfl 1 rfl ?_
  refine ra_aload_n E dX10_fail_2 rfl 0 rfl ?_
  refine gf_X10_4 E fl_X10_25 dX10_fail_3 ?_
  refine ra_callVV (rest := []) E (c_X10_failAt _ _ _ _ h) (lq_X10 _) cv_X10_failAt ml_X10_59 (by decide) (lm (by decide)) (fun R => ⟨_, cel_1 tc ad R⟩) rfl rfl rfl (Nat.le_of_ble_eq_true rfl) ⟨Nat.le_of_ble_eq_true rfl, Nat.le_of_ble_eq_true rfl⟩ ⟨Nat.zero_le _, Nat.zero_le _⟩ dX10_fail_6 (fun M1 h => ?_)
  exact ra_vret E hr dX10_fail_9 h
def f_X10_advance_L115  (K : TM → Prop) : Nat → TM → Prop
  | 0, _ => False
  | n + 1, M => (((M 1 2) ≤ (M 1 5) → K M) ∧ (¬ (M 1 2) ≤ (M 1 5) → vp_in (M 1 5) 500 ∧ f_X10_kindOf (M 2 (M 1 5).toNatClampNeg) M (fun r15 M14 => ((¬ r15 = (M14 1 3) → K M14) ∧ (r15 = (M14 1 3) → ∀ M17, M17 = u2 M14 1 5 ((M14 1 5) + (1 : Int32)) → f_X10_advance_L115 K n M17)))))
set_option maxRecDepth 100000 in
set_option maxHeartbeats 4000000 in
theorem l_X10_advance_L115 {p : Program} {l : Launch} {e : Env} {s : State} {m : MethodId} {args : Array Value} {below : List Frame} {meth : Method} {c : Code} {D : va_G} {tc : Nat → ClassId} {ad : Nat → Nat}  {K : TM → Prop} (E : Ev p s m args meth c D tc ad RX10 cX10_advance 1) (hr : meth.sig.returnType = none) : ∀ (n : Nat)  (M : TM) , f_X10_advance_L115  K n  M → Wa p l e (rmD 1) s m args below meth c 0 0 (MQ below (va_Qv K (EndW D tc ad) (A0 ad s.heap.size)) args s 0 0 (A0 ad s.heap.size)) D tc ad 1 M 115 [(0, .ref (ad 1))] [] := by
  intro n
  induction n with
  | zero => intro  M  h; exact h.elim
  | succ n ih =>
    intro  M  h
    unfold f_X10_advance_L115 at h
    refine ra_aload_n E dX10_advance_115 rfl 0 rfl ?_
    refine gf_X10_5 E fl_X10_28 dX10_advance_116 ?_
    refine ra_aload_n E dX10_advance_119 rfl 0 rfl ?_
    refine gf_X10_2 E fl_X10_19 dX10_advance_120 ?_
    refine ra_icmp_ge (tgt := 158) E dX10_advance_123 (by decide) (fun q12 => ?_) (fun q12 => ?_)
    · replace h := h.1 q12
      exact ra_vret E hr dX10_advance_158 h
    · replace h := h.2 q12
      refine ra_aload_n E dX10_advance_126 rfl 0 rfl ?_
      refine gf_X10_0 E fl_X10_9 dX10_advance_127 ?_
      refine ra_aload_n E dX10_advance_130 rfl 0 rfl ?_
      refine gf_X10_5 E fl_X10_28 dX10_advance_131 ?_
      obtain ⟨g13, h⟩ := h
      refine ra_bald E (lm (by decide)) (cel_2 tc ad) g13 dX10_advance_134 ?_
      refine ra_callIS (rest := []) E (c_X10_kindOf _ _ _ h) (lq_X10 _) ct_X10_kindOf ml_X10_63 (by decide) rfl rfl (Nat.le_of_ble_eq_true rfl) ⟨Nat.le_of_ble_eq_true rfl, Nat.le_of_ble_eq_true rfl⟩ ⟨Nat.zero_le _, Nat.zero_le _⟩ dX10_advance_135 (fun r15 M14 h => ?_)
      refine ra_aload_n E dX10_advance_138 rfl 0 rfl ?_
      refine gf_X10_3 E fl_X10_22 dX10_advance_139 ?_
      refine ra_icmp_ne (tgt := 158) E dX10_advance_142 (by decide) (fun q16 => ?_) (fun q16 => ?_)
      · replace h := h.1 q16
        exact ra_vret E hr dX10_advance_158 h
      · replace h := h.2 q16
        refine ra_aload_n E dX10_advance_145 rfl 0 rfl ?_
        refine ra_dup E dX10_advance_146 rfl ?_
        refine gf_X10_5 E fl_X10_28 dX10_advance_147 ?_
        refine ra_iconst E dX10_advance_150 ki_1 ?_
        refine ra_iadd E dX10_advance_151 ?_
        refine pf_X10_5 E fl_X10_28 dX10_advance_152 ?_
        replace h := h _ rfl
        refine ra_goto (tgt := 115) E dX10_advance_155 (by decide) ?_
        exact ra_sub (L' := [(0, _)]) [0] rfl (ih _ h)
def f_X10_advance_L48  (K : TM → Prop)  (M : TM) : Prop := ∀ M3, M3 = u2 M 1 5 (M 1 4) → ∀ M4, M4 = u2 M3 1 3 (0 : Int32) → (((M4 1 4) < (M4 1 2) → vp_in (M4 1 4) 500 ∧ f_X10_kindOf (M4 2 (M4 1 4).toNatClampNeg) M4 (fun r8 M7 => ∀ M9, M9 = u2 M7 1 3 r8 → ∀ M10, M10 = u2 M9 1 5 ((M9 1 5) + (1 : Int32)) → (((M10 1 3) = (3 : Int32) → ∃ n, f_X10_advance_L115 K n M10) ∧ (¬ (M10 1 3) = (3 : Int32) → ((¬ (M10 1 3) = (4 : Int32) → K M10) ∧ ((M10 1 3) = (4 : Int32) → ∃ n, f_X10_advance_L115 K n M10)))))) ∧ (¬ (M4 1 4) < (M4 1 2) → K M4))
set_option maxRecDepth 100000 in
set_option maxHeartbeats 4000000 in
theorem l_X10_advance_L48 {p : Program} {l : Launch} {e : Env} {s : State} {m : MethodId} {args : Array Value} {below : List Frame} {meth : Method} {c : Code} {D : va_G} {tc : Nat → ClassId} {ad : Nat → Nat}  {K : TM → Prop} (E : Ev p s m args meth c D tc ad RX10 cX10_advance 1) (hr : meth.sig.returnType = none) : ∀  (M : TM) , f_X10_advance_L48  K  M → Wa p l e (rmD 1) s m args below meth c 0 0 (MQ below (va_Qv K (EndW D tc ad) (A0 ad s.heap.size)) args s 0 0 (A0 ad s.heap.size)) D tc ad 1 M 48 [(0, .ref (ad 1))] [] := by
  intro  M  h
  unfold f_X10_advance_L48 at h
  refine ra_aload_n E dX10_advance_48 rfl 0 rfl ?_
  refine ra_aload_n E dX10_advance_49 rfl 0 rfl ?_
  refine gf_X10_4 E fl_X10_25 dX10_advance_50 ?_
  refine pf_X10_5 E fl_X10_28 dX10_advance_53 ?_
  replace h := h _ rfl
  refine ra_aload_n E dX10_advance_56 rfl 0 rfl ?_
  refine ra_iconst E dX10_advance_57 ki_0 ?_
  refine pf_X10_3 E fl_X10_22 dX10_advance_58 ?_
  replace h := h _ rfl
  refine ra_aload_n E dX10_advance_61 rfl 0 rfl ?_
  refine gf_X10_4 E fl_X10_25 dX10_advance_62 ?_
  refine ra_aload_n E dX10_advance_65 rfl 0 rfl ?_
  refine gf_X10_2 E fl_X10_19 dX10_advance_66 ?_
  refine ra_icmp_lt (tgt := 73) E dX10_advance_69 (by decide) (fun q5 => ?_) (fun q5 => ?_)
  · replace h := h.1 q5
    refine ra_aload_n E dX10_advance_73 rfl 0 rfl ?_
    refine ra_aload_n E dX10_advance_74 rfl 0 rfl ?_
    refine gf_X10_0 E fl_X10_9 dX10_advance_75 ?_
    refine ra_aload_n E dX10_advance_78 rfl 0 rfl ?_
    refine gf_X10_4 E fl_X10_25 dX10_advance_79 ?_
    obtain ⟨g6, h⟩ := h
    refine ra_bald E (lm (by decide)) (cel_2 tc ad) g6 dX10_advance_82 ?_
    refine ra_callIS (rest := [_]) E (c_X10_kindOf _ _ _ h) (lq_X10 _) ct_X10_kindOf ml_X10_63 (by decide) rfl rfl (Nat.le_of_ble_eq_true rfl) ⟨Nat.le_of_ble_eq_true rfl, Nat.le_of_ble_eq_true rfl⟩ ⟨Nat.zero_le _, Nat.zero_le _⟩ dX10_advance_83 (fun r8 M7 h => ?_)
    refine pf_X10_3 E fl_X10_22 dX10_advance_86 ?_
    replace h := h _ rfl
    refine ra_aload_n E dX10_advance_89 rfl 0 rfl ?_
    refine ra_dup E dX10_advance_90 rfl ?_
    refine gf_X10_5 E fl_X10_28 dX10_advance_91 ?_
    refine ra_iconst E dX10_advance_94 ki_1 ?_
    refine ra_iadd E dX10_advance_95 ?_
    refine pf_X10_5 E fl_X10_28 dX10_advance_96 ?_
    replace h := h _ rfl
    refine ra_aload_n E dX10_advance_99 rfl 0 rfl ?_
    refine gf_X10_3 E fl_X10_22 dX10_advance_100 ?_
    refine ra_iconst E dX10_advance_103 ki_3 ?_
    refine ra_icmp_eq (tgt := 115) E dX10_advance_104 (by decide) (fun q11 => ?_) (fun q11 => ?_)
    · replace h := h.1 q11
      obtain ⟨n18, h⟩ := h
      exact ra_sub (L' := [(0, _)]) [0] rfl (l_X10_advance_L115 E hr n18 _ h)
    · replace h := h.2 q11
      refine ra_aload_n E dX10_advance_107 rfl 0 rfl ?_
      refine gf_X10_3 E fl_X10_22 dX10_advance_108 ?_
      refine ra_iconst E dX10_advance_111 ki_4 ?_
      refine ra_icmp_ne (tgt := 158) E dX10_advance_112 (by decide) (fun q19 => ?_) (fun q19 => ?_)
      · replace h := h.1 q19
        exact ra_vret E hr dX10_advance_158 h
      · replace h := h.2 q19
        obtain ⟨n20, h⟩ := h
        exact ra_sub (L' := [(0, _)]) [0] rfl (l_X10_advance_L115 E hr n20 _ h)
  · replace h := h.2 q5
    exact ra_vret E hr dX10_advance_72 h
def f_X10_advance_L8  (K : TM → Prop) : Nat → TM → Prop
  | 0, _ => False
  | n + 1, M => (((M 1 2) ≤ (M 1 4) → f_X10_advance_L48 K M) ∧ (¬ (M 1 2) ≤ (M 1 4) → vp_in (M 1 4) 500 ∧ f_X10_kindOf (M 2 (M 1 4).toNatClampNeg) M (fun r23 M22 => ((¬ r23 = (2 : Int32) → f_X10_advance_L48 K M22) ∧ (r23 = (2 : Int32) → ∀ M25, M25 = u2 M22 1 4 ((M22 1 4) + (1 : Int32)) → f_X10_advance_L8 K n M25)))))
set_option maxRecDepth 100000 in
set_option maxHeartbeats 4000000 in
theorem l_X10_advance_L8 {p : Program} {l : Launch} {e : Env} {s : State} {m : MethodId} {args : Array Value} {below : List Frame} {meth : Method} {c : Code} {D : va_G} {tc : Nat → ClassId} {ad : Nat → Nat}  {K : TM → Prop} (E : Ev p s m args meth c D tc ad RX10 cX10_advance 1) (hr : meth.sig.returnType = none) : ∀ (n : Nat)  (M : TM) , f_X10_advance_L8  K n  M → Wa p l e (rmD 1) s m args below meth c 0 0 (MQ below (va_Qv K (EndW D tc ad) (A0 ad s.heap.size)) args s 0 0 (A0 ad s.heap.size)) D tc ad 1 M 8 [(0, .ref (ad 1))] [] := by
  intro n
  induction n with
  | zero => intro  M  h; exact h.elim
  | succ n ih =>
    intro  M  h
    unfold f_X10_advance_L8 at h
    refine ra_aload_n E dX10_advance_8 rfl 0 rfl ?_
    refine gf_X10_4 E fl_X10_25 dX10_advance_9 ?_
    refine ra_aload_n E dX10_advance_12 rfl 0 rfl ?_
    refine gf_X10_2 E fl_X10_19 dX10_advance_13 ?_
    refine ra_icmp_ge (tgt := 48) E dX10_advance_16 (by decide) (fun q2 => ?_) (fun q2 => ?_)
    · replace h := h.1 q2
      exact ra_sub (L' := [(0, _)]) [0] rfl (l_X10_advance_L48 E hr _ h)
    · replace h := h.2 q2
      refine ra_aload_n E dX10_advance_19 rfl 0 rfl ?_
      refine gf_X10_0 E fl_X10_9 dX10_advance_20 ?_
      refine ra_aload_n E dX10_advance_23 rfl 0 rfl ?_
      refine gf_X10_4 E fl_X10_25 dX10_advance_24 ?_
      obtain ⟨g21, h⟩ := h
      refine ra_bald E (lm (by decide)) (cel_2 tc ad) g21 dX10_advance_27 ?_
      refine ra_callIS (rest := []) E (c_X10_kindOf _ _ _ h) (lq_X10 _) ct_X10_kindOf ml_X10_63 (by decide) rfl rfl (Nat.le_of_ble_eq_true rfl) ⟨Nat.le_of_ble_eq_true rfl, Nat.le_of_ble_eq_true rfl⟩ ⟨Nat.zero_le _, Nat.zero_le _⟩ dX10_advance_28 (fun r23 M22 h => ?_)
      refine ra_iconst E dX10_advance_31 ki_2 ?_
      refine ra_icmp_ne (tgt := 48) E dX10_advance_32 (by decide) (fun q24 => ?_) (fun q24 => ?_)
      · replace h := h.1 q24
        exact ra_sub (L' := [(0, _)]) [0] rfl (l_X10_advance_L48 E hr _ h)
      · replace h := h.2 q24
        refine ra_aload_n E dX10_advance_35 rfl 0 rfl ?_
        refine ra_dup E dX10_advance_36 rfl ?_
        refine gf_X10_4 E fl_X10_25 dX10_advance_37 ?_
        refine ra_iconst E dX10_advance_40 ki_1 ?_
        refine ra_iadd E dX10_advance_41 ?_
        refine pf_X10_4 E fl_X10_25 dX10_advance_42 ?_
        replace h := h _ rfl
        refine ra_goto (tgt := 8) E dX10_advance_45 (by decide) ?_
        exact ra_sub (L' := [(0, _)]) [0] rfl (ih _ h)
def f_X10_advance  (M : TM) (K : TM → Prop) : Prop := ∀ M1, M1 = u2 M 1 4 (M 1 5) → ∃ n, f_X10_advance_L8 K n M1
set_option maxRecDepth 100000 in
set_option maxHeartbeats 4000000 in
theorem c_X10_advance {ad : Nat → Nat}  (M : TM) (K : TM → Prop) (h : f_X10_advance  M K) : MV yX10_advance cX10_advance 1 1 ad [.ref (ad 1)] M K := by
  refine MV_of RX10 rfl (by decide +kernel) (Nat.le_of_ble_eq_true rfl) (fun p l e s m below meth c D tc E hr => ?_)
  unfold f_X10_advance at h
  refine ra_aload_n E dX10_advance_0 rfl 0 rfl ?_
  refine ra_aload_n E dX10_advance_1 rfl 0 rfl ?_
  refine gf_X10_5 E fl_X10_28 dX10_advance_2 ?_
  refine pf_X10_4 E fl_X10_25 dX10_advance_5 ?_
  replace h := h _ rfl
  obtain ⟨n26, h⟩ := h
  exact ra_sub (L' := [(0, _)]) [0] rfl (l_X10_advance_L8 E hr n26 _ h)
def f_X10_readToken (p1 : Int32) (M : TM) (K : TM → Prop) : Prop := f_X10_isAt p1 M (fun r2 M1 => ((r2 = 0 → f_X10_fail (1 : Int32) M1 (fun M5 => K M5)) ∧ (¬ r2 = 0 → f_X10_advance M1 (fun M6 => K M6))))
set_option maxRecDepth 100000 in
set_option maxHeartbeats 4000000 in
theorem c_X10_readToken {ad : Nat → Nat} (p1 : Int32) (M : TM) (K : TM → Prop) (h : f_X10_readToken p1 M K) : MV yX10_readToken cX10_readToken 2 2 ad [.ref (ad 1), .int p1] M K := by
  refine MV_of RX10 rfl (by decide +kernel) (Nat.le_of_ble_eq_true rfl) (fun p l e s m below meth c D tc E hr => ?_)
  unfold f_X10_readToken at h
  refine ra_aload_n E dX10_readToken_0 rfl 0 rfl ?_
  refine ra_iload_n E dX10_readToken_1 rfl 1 rfl ?_
  refine ra_callIV (rest := []) E (c_X10_isAt _ _ _ h) (lq_X10 _) cv_X10_isAt ml_X10_67 (by decide) (lm (by decide)) (fun R => ⟨_, cel_1 tc ad R⟩) rfl rfl rfl (Nat.le_of_ble_eq_true rfl) ⟨Nat.le_of_ble_eq_true rfl, Nat.le_of_ble_eq_true rfl⟩ ⟨Nat.zero_le _, Nat.zero_le _⟩ dX10_readToken_2 (fun r2 M1 h => ?_)
  obtain ⟨b3, h⟩ := h
  refine ra_if_eq (tgt := 15) E dX10_readToken_5 (by decide) (fun q4 => ?_) (fun q4 => ?_)
  · replace h := h.1 q4
    refine ra_aload_n E dX10_readToken_15 rfl 0 rfl ?_
    refine ra_iconst E dX10_readToken_16 ki_1 ?_
    refine ra_callVV (rest := []) E (c_X10_fail _ _ _ h) (lq_X10 _) cv_X10_fail ml_X10_75 (by decide) (lm (by decide)) (fun R => ⟨_, cel_1 tc ad R⟩) rfl rfl rfl (Nat.le_of_ble_eq_true rfl) ⟨Nat.le_of_ble_eq_true rfl, Nat.le_of_ble_eq_true rfl⟩ ⟨Nat.zero_le _, Nat.zero_le _⟩ dX10_readToken_17 (fun M5 h => ?_)
    exact ra_vret E hr dX10_readToken_20 h
  · replace h := h.2 q4
    refine ra_aload_n E dX10_readToken_8 rfl 0 rfl ?_
    refine ra_callVV (rest := []) E (c_X10_advance _ _ h) (lq_X10 _) cv_X10_advance ml_X10_56 (by decide) (lm (by decide)) (fun R => ⟨_, cel_1 tc ad R⟩) rfl rfl rfl (Nat.le_of_ble_eq_true rfl) ⟨Nat.le_of_ble_eq_true rfl, Nat.le_of_ble_eq_true rfl⟩ ⟨Nat.zero_le _, Nat.zero_le _⟩ dX10_readToken_9 (fun M6 h => ?_)
    refine ra_goto (tgt := 20) E dX10_readToken_12 (by decide) ?_
    exact ra_vret E hr dX10_readToken_20 h
def f_X10_readNumber_L69 (p1 : Int32) (p2 : Int32) (K : Int32 → TM → Prop) (x1 : Int32) (x2 : Int32) (x3 : Int32) (M : TM) : Prop := ((x3 < x1 → f_X10_fail (2 : Int32) M (fun M7 => K x1 M7)) ∧ (¬ x3 < x1 → ((x3 ≤ x2 → f_X10_advance M (fun M9 => K x3 M9)) ∧ (¬ x3 ≤ x2 → f_X10_fail (2 : Int32) M (fun M10 => K x1 M10)))))
set_option maxRecDepth 100000 in
set_option maxHeartbeats 4000000 in
theorem l_X10_readNumber_L69 {p : Program} {l : Launch} {e : Env} {s : State} {m : MethodId} {args : Array Value} {below : List Frame} {meth : Method} {c : Code} {D : va_G} {tc : Nat → ClassId} {ad : Nat → Nat} (p1 : Int32) (p2 : Int32) {K : Int32 → TM → Prop} (E : Ev p s m args meth c D tc ad RX10 cX10_readNumber 5) (hr : meth.sig.returnType = (some .int)) : ∀ (x1 : Int32) (x2 : Int32) (x3 : Int32) (M : TM) , f_X10_readNumber_L69 p1 p2 K x1 x2 x3 M → Wa p l e (rmD 2) s m args below meth c 0 0 (MQ below (va_Qi K (EndW D tc ad) (A0 ad s.heap.size)) args s 0 0 (A0 ad s.heap.size)) D tc ad 5 M 69 [(0, .ref (ad 1)), (1, .int x1), (2, .int x2), (3, .int x3)] [] := by
  intro x1 x2 x3 M  h
  unfold f_X10_readNumber_L69 at h
  refine ra_iload_n E dX10_readNumber_69 rfl 3 rfl ?_
  refine ra_iload_n E dX10_readNumber_70 rfl 1 rfl ?_
  refine ra_icmp_lt (tgt := 79) E dX10_readNumber_71 (by decide) (fun q6 => ?_) (fun q6 => ?_)
  · replace h := h.1 q6
    refine ra_aload_n E dX10_readNumber_79 rfl 0 rfl ?_
    refine ra_iconst E dX10_readNumber_80 ki_2 ?_
    refine ra_callVV (rest := []) E (c_X10_fail _ _ _ h) (lq_X10 _) cv_X10_fail ml_X10_75 (by decide) (lm (by decide)) (fun R => ⟨_, cel_1 tc ad R⟩) rfl rfl rfl (Nat.le_of_ble_eq_true rfl) ⟨Nat.le_of_ble_eq_true rfl, Nat.le_of_ble_eq_true rfl⟩ ⟨Nat.zero_le _, Nat.zero_le _⟩ dX10_readNumber_81 (fun M7 h => ?_)
    refine ra_iload_n E dX10_readNumber_84 rfl 1 rfl ?_
    exact ra_iret E hr dX10_readNumber_85 h
  · replace h := h.2 q6
    refine ra_iload_n E dX10_readNumber_74 rfl 3 rfl ?_
    refine ra_iload_n E dX10_readNumber_75 rfl 2 rfl ?_
    refine ra_icmp_le (tgt := 86) E dX10_readNumber_76 (by decide) (fun q8 => ?_) (fun q8 => ?_)
    · replace h := h.1 q8
      refine ra_aload_n E dX10_readNumber_86 rfl 0 rfl ?_
      refine ra_callVV (rest := []) E (c_X10_advance _ _ h) (lq_X10 _) cv_X10_advance ml_X10_56 (by decide) (lm (by decide)) (fun R => ⟨_, cel_1 tc ad R⟩) rfl rfl rfl (Nat.le_of_ble_eq_true rfl) ⟨Nat.le_of_ble_eq_true rfl, Nat.le_of_ble_eq_true rfl⟩ ⟨Nat.zero_le _, Nat.zero_le _⟩ dX10_readNumber_87 (fun M9 h => ?_)
      refine ra_iload_n E dX10_readNumber_90 rfl 3 rfl ?_
      exact ra_iret E hr dX10_readNumber_91 h
    · replace h := h.2 q8
      refine ra_aload_n E dX10_readNumber_79 rfl 0 rfl ?_
      refine ra_iconst E dX10_readNumber_80 ki_2 ?_
      refine ra_callVV (rest := []) E (c_X10_fail _ _ _ h) (lq_X10 _) cv_X10_fail ml_X10_75 (by decide) (lm (by decide)) (fun R => ⟨_, cel_1 tc ad R⟩) rfl rfl rfl (Nat.le_of_ble_eq_true rfl) ⟨Nat.le_of_ble_eq_true rfl, Nat.le_of_ble_eq_true rfl⟩ ⟨Nat.zero_le _, Nat.zero_le _⟩ dX10_readNumber_81 (fun M10 h => ?_)
      refine ra_iload_n E dX10_readNumber_84 rfl 1 rfl ?_
      exact ra_iret E hr dX10_readNumber_85 h
def f_X10_readNumber_L23 (p1 : Int32) (p2 : Int32) (K : Int32 → TM → Prop) : Nat → Int32 → Int32 → Int32 → Int32 → TM → Prop
  | 0, _, _, _, _, _ => False
  | n + 1, x1, x2, x3, x4, M => (((M 1 5) ≤ x4 → f_X10_readNumber_L69 p1 p2 K x1 x2 x3 M) ∧ (¬ (M 1 5) ≤ x4 → (((500 : Int32) ≤ x4 → f_X10_readNumber_L69 p1 p2 K x1 x2 x3 M) ∧ (¬ (500 : Int32) ≤ x4 → vp_in x4 500 ∧ f_X10_readNumber_L23 p1 p2 K n x1 x2 (if (100000 : Int32) < ((((10 : Int32) * x3) + (M 2 x4.toNatClampNeg)) - (48 : Int32)) then (100000 : Int32) else ((((10 : Int32) * x3) + (M 2 x4.toNatClampNeg)) - (48 : Int32))) (x4 + 1) M))))
set_option maxRecDepth 100000 in
set_option maxHeartbeats 4000000 in
theorem l_X10_readNumber_L23 {p : Program} {l : Launch} {e : Env} {s : State} {m : MethodId} {args : Array Value} {below : List Frame} {meth : Method} {c : Code} {D : va_G} {tc : Nat → ClassId} {ad : Nat → Nat} (p1 : Int32) (p2 : Int32) {K : Int32 → TM → Prop} (E : Ev p s m args meth c D tc ad RX10 cX10_readNumber 5) (hr : meth.sig.returnType = (some .int)) : ∀ (n : Nat) (x1 : Int32) (x2 : Int32) (x3 : Int32) (x4 : Int32) (M : TM) , f_X10_readNumber_L23 p1 p2 K n x1 x2 x3 x4 M → Wa p l e (rmD 2) s m args below meth c 0 0 (MQ below (va_Qi K (EndW D tc ad) (A0 ad s.heap.size)) args s 0 0 (A0 ad s.heap.size)) D tc ad 5 M 23 [(0, .ref (ad 1)), (1, .int x1), (2, .int x2), (3, .int x3), (4, .int x4)] [] := by
  intro n
  induction n with
  | zero => intro x1 x2 x3 x4 M  h; exact h.elim
  | succ n ih =>
    intro x1 x2 x3 x4 M  h
    unfold f_X10_readNumber_L23 at h
    refine ra_iload E dX10_readNumber_23 4 rfl ?_
    refine ra_aload_n E dX10_readNumber_25 rfl 0 rfl ?_
    refine gf_X10_5 E fl_X10_28 dX10_readNumber_26 ?_
    refine ra_icmp_ge (tgt := 69) E dX10_readNumber_29 (by decide) (fun q5 => ?_) (fun q5 => ?_)
    · replace h := h.1 q5
      exact ra_sub (L' := [(0, _), (1, _), (2, _), (3, _)]) [0, 1, 2, 3] rfl (l_X10_readNumber_L69 p1 p2 E hr _ _ _ _ h)
    · replace h := h.2 q5
      refine ra_iload E dX10_readNumber_32 4 rfl ?_
      refine ra_aload_n E dX10_readNumber_34 rfl 0 rfl ?_
      refine gf_X10_0 E fl_X10_9 dX10_readNumber_35 ?_
      refine ra_alen (n := 500) (v := 500) E (lm (by decide)) (fun R => ⟨_, (cel_2 tc ad) R, rfl⟩) rfl (by decide) dX10_readNumber_38 ?_
      refine ra_icmp_ge (tgt := 69) E dX10_readNumber_39 (by decide) (fun q11 => ?_) (fun q11 => ?_)
      · replace h := h.1 q11
        exact ra_sub (L' := [(0, _), (1, _), (2, _), (3, _)]) [0, 1, 2, 3] rfl (l_X10_readNumber_L69 p1 p2 E hr _ _ _ _ h)
      · replace h := h.2 q11
        refine ra_bipush E dX10_readNumber_42 kb_10 ?_
        refine ra_iload_n E dX10_readNumber_44 rfl 3 rfl ?_
        refine ra_imul E dX10_readNumber_45 ?_
        refine ra_aload_n E dX10_readNumber_46 rfl 0 rfl ?_
        refine gf_X10_0 E fl_X10_9 dX10_readNumber_47 ?_
        refine ra_iload E dX10_readNumber_50 4 rfl ?_
        obtain ⟨g12, h⟩ := h
        refine ra_bald E (lm (by decide)) (cel_2 tc ad) g12 dX10_readNumber_52 ?_
        refine ra_iadd E dX10_readNumber_53 ?_
        refine ra_bipush E dX10_readNumber_54 kb_48 ?_
        refine ra_isub E dX10_readNumber_56 ?_
        refine ra_ldci (v := 100000) E kc_X10_78 dX10_readNumber_57 ?_
        refine ra_mmin E ml_X10_50 ⟨Nat.le_of_ble_eq_true rfl, Nat.le_of_ble_eq_true rfl⟩ ⟨Nat.zero_le _, Nat.zero_le _⟩ dX10_readNumber_59 ?_
        refine ra_istore_n (L' := [(3, _), (0, _), (1, _), (2, _), (4, _)]) E dX10_readNumber_62 rfl (by decide) rfl ?_
        refine ra_iinc1 (L' := [(4, _), (3, _), (0, _), (1, _), (2, _)]) E dX10_readNumber_63 4 rfl (by decide) rfl ?_
        refine ra_goto (tgt := 23) E dX10_readNumber_66 (by decide) ?_
        exact ra_sub (L' := [(0, _), (1, _), (2, _), (3, _), (4, _)]) [2, 3, 4, 1, 0] rfl (ih _ _ _ _ _ h)
def f_X10_readNumber (p1 : Int32) (p2 : Int32) (M : TM) (K : Int32 → TM → Prop) : Prop := f_X10_isAt (4 : Int32) M (fun r2 M1 => ((¬ r2 = 0 → ∃ n, f_X10_readNumber_L23 p1 p2 K n p1 p2 (0 : Int32) (M1 1 4) M1) ∧ (r2 = 0 → f_X10_fail (1 : Int32) M1 (fun M14 => K p1 M14))))
set_option maxRecDepth 100000 in
set_option maxHeartbeats 4000000 in
theorem c_X10_readNumber {ad : Nat → Nat} (p1 : Int32) (p2 : Int32) (M : TM) (K : Int32 → TM → Prop) (h : f_X10_readNumber p1 p2 M K) : MI yX10_readNumber cX10_readNumber 5 (some .int) 2 ad [.ref (ad 1), .int p1, .int p2] M K := by
  refine MI_of RX10 rfl (by decide +kernel) (Nat.le_of_ble_eq_true rfl) (fun p l e s m below meth c D tc E hr => ?_)
  unfold f_X10_readNumber at h
  refine ra_aload_n E dX10_readNumber_0 rfl 0 rfl ?_
  refine ra_iconst E dX10_readNumber_1 ki_4 ?_
  refine ra_callIV (rest := []) E (c_X10_isAt _ _ _ h) (lq_X10 _) cv_X10_isAt ml_X10_67 (by decide) (lm (by decide)) (fun R => ⟨_, cel_1 tc ad R⟩) rfl rfl rfl (Nat.le_of_ble_eq_true rfl) ⟨Nat.le_of_ble_eq_true rfl, Nat.le_of_ble_eq_true rfl⟩ ⟨Nat.zero_le _, Nat.zero_le _⟩ dX10_readNumber_2 (fun r2 M1 h => ?_)
  obtain ⟨b3, h⟩ := h
  refine ra_if_ne (tgt := 15) E dX10_readNumber_5 (by decide) (fun q4 => ?_) (fun q4 => ?_)
  · replace h := h.1 q4
    refine ra_iconst E dX10_readNumber_15 ki_0 ?_
    refine ra_istore_n (L' := [(3, _), (0, _), (1, _), (2, _)]) E dX10_readNumber_16 rfl (by decide) rfl ?_
    refine ra_aload_n E dX10_readNumber_17 rfl 1 rfl ?_
    refine gf_X10_4 E fl_X10_25 dX10_readNumber_18 ?_
    refine ra_istore (L' := [(4, _), (3, _), (0, _), (1, _), (2, _)]) E dX10_readNumber_21 (by decide) rfl ?_
    obtain ⟨n13, h⟩ := h
    exact ra_sub (L' := [(0, _), (1, _), (2, _), (3, _), (4, _)]) [2, 3, 4, 1, 0] rfl (l_X10_readNumber_L23 p1 p2 E hr n13 _ _ _ _ _ h)
  · replace h := h.2 q4
    refine ra_aload_n E dX10_readNumber_8 rfl 0 rfl ?_
    refine ra_iconst E dX10_readNumber_9 ki_1 ?_
    refine ra_callVV (rest := []) E (c_X10_fail _ _ _ h) (lq_X10 _) cv_X10_fail ml_X10_75 (by decide) (lm (by decide)) (fun R => ⟨_, cel_1 tc ad R⟩) rfl rfl rfl (Nat.le_of_ble_eq_true rfl) ⟨Nat.le_of_ble_eq_true rfl, Nat.le_of_ble_eq_true rfl⟩ ⟨Nat.zero_le _, Nat.zero_le _⟩ dX10_readNumber_10 (fun M14 h => ?_)
    refine ra_iload_n E dX10_readNumber_13 rfl 1 rfl ?_
    exact ra_iret E hr dX10_readNumber_14 h
