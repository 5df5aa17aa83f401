def f_X13_whyNotSail (p1 : Int32) (p2 : Int32) (M : TM) (K : Int32 → TM → Prop) : Prop := f_X13_isInLock p1 M (fun r2 M1 => ((r2 = 0 → f_X13_of p1 (1 : Int32) M1 (fun r6 M5 => ((¬ r6 = p2 → f_X13_isTooHigh p1 p2 M5 (fun r9 M8 => ((r9 = 0 → K (0 : Int32) M8) ∧ (¬ r9 = 0 → K (3 : Int32) M8)))) ∧ (r6 = p2 → K (2 : Int32) M5)))) ∧ (¬ r2 = 0 → K (1 : Int32) M1)))
set_option maxRecDepth 100000 in
set_option maxHeartbeats 4000000 in
theorem c_X13_whyNotSail {ad : Nat → Nat} (p1 : Int32) (p2 : Int32) (M : TM) (K : Int32 → TM → Prop) (h : f_X13_whyNotSail p1 p2 M K) : MI yX13_whyNotSail cX13_whyNotSail 3 (some .int) 2 ad [.ref (ad 699), .int p1, .int p2] M K := by
  refine MI_of RX13 rfl (by decide +kernel) (Nat.le_of_ble_eq_true rfl) (fun p l e s m below meth c D tc E hr => ?_)
  unfold f_X13_whyNotSail at h
  refine ra_aload_n E dX13_whyNotSail_0 rfl 0 rfl ?_
  refine ra_iload_n E dX13_whyNotSail_1 rfl 1 rfl ?_
  refine ra_callIV (rest := []) E (c_X13_isInLock _ _ _ h) lq_13 cv_X13_isInLock ml_X13_104 (by decide) (lmM (by decide)) (fun R => ⟨_, cel_699 tc ad R⟩) rfl rfl rfl (Nat.le_of_ble_eq_true rfl) ⟨Nat.le_of_ble_eq_true rfl, Nat.le_of_ble_eq_true rfl⟩ ⟨Nat.zero_le _, Nat.zero_le _⟩ dX13_whyNotSail_2 (fun r2 M1 h => ?_)
  obtain ⟨b3, h⟩ := h
  refine ra_if_eq (tgt := 12) E dX13_whyNotSail_5 (by decide) (fun q4 => ?_) (fun q4 => ?_)
  · replace h := h.1 q4
    refine ra_aload_n E dX13_whyNotSail_12 rfl 0 rfl ?_
    refine ra_iload_n E dX13_whyNotSail_13 rfl 1 rfl ?_
    refine ra_iconst E dX13_whyNotSail_14 ki_1 ?_
    refine ra_callIV (rest := []) E (c_X13_of _ _ _ _ h) lq_13 cv_X13_of ml_X13_93 (by decide) (lmM (by decide)) (fun R => ⟨_, cel_699 tc ad R⟩) rfl rfl rfl (Nat.le_of_ble_eq_true rfl) ⟨Nat.le_of_ble_eq_true rfl, Nat.le_of_ble_eq_true rfl⟩ ⟨Nat.zero_le _, Nat.zero_le _⟩ dX13_whyNotSail_15 (fun r6 M5 h => ?_)
    refine ra_iload_n E dX13_whyNotSail_18 rfl 2 rfl ?_
    refine ra_icmp_ne (tgt := 26) E dX13_whyNotSail_19 (by decide) (fun q7 => ?_) (fun q7 => ?_)
    · replace h := h.1 q7
      refine ra_aload_n E dX13_whyNotSail_26 rfl 0 rfl ?_
      refine ra_iload_n E dX13_whyNotSail_27 rfl 1 rfl ?_
      refine ra_iload_n E dX13_whyNotSail_28 rfl 2 rfl ?_
      refine ra_callIV (rest := []) E (c_X13_isTooHigh _ _ _ _ h) lq_13 cv_X13_isTooHigh ml_X13_214 (by decide) (lmM (by decide)) (fun R => ⟨_, cel_699 tc ad R⟩) rfl rfl rfl (Nat.le_of_ble_eq_true rfl) ⟨Nat.le_of_ble_eq_true rfl, Nat.le_of_ble_eq_true rfl⟩ ⟨Nat.zero_le _, Nat.zero_le _⟩ dX13_whyNotSail_29 (fun r9 M8 h => ?_)
      obtain ⟨b10, h⟩ := h
      refine ra_if_eq (tgt := 39) E dX13_whyNotSail_32 (by decide) (fun q11 => ?_) (fun q11 => ?_)
      · replace h := h.1 q11
        refine ra_iconst E dX13_whyNotSail_39 ki_0 ?_
        exact ra_iret E hr dX13_whyNotSail_40 h
      · replace h := h.2 q11
        refine ra_iconst E dX13_whyNotSail_35 ki_3 ?_
        refine ra_goto (tgt := 40) E dX13_whyNotSail_36 (by decide) ?_
        exact ra_iret E hr dX13_whyNotSail_40 h
    · replace h := h.2 q7
      refine ra_iconst E dX13_whyNotSail_22 ki_2 ?_
      refine ra_goto (tgt := 40) E dX13_whyNotSail_23 (by decide) ?_
      exact ra_iret E hr dX13_whyNotSail_40 h
  · replace h := h.2 q4
    refine ra_iconst E dX13_whyNotSail_8 ki_1 ?_
    refine ra_goto (tgt := 40) E dX13_whyNotSail_9 (by decide) ?_
    exact ra_iret E hr dX13_whyNotSail_40 h
def f_X13_sailObstacle_L22 (p1 : Int32) (p2 : Int32) (K : Int32 → TM → Prop) (x1 : Int32) (x2 : Int32) (z0 : Int32) (M : TM) : Prop := f_X13_lacks z0 M (fun r6 M5 => ((r6 = 0 → f_X13_whyNotSail x1 x2 M5 (fun r10 M9 => K r10 M9)) ∧ (¬ r6 = 0 → K (0 : Int32) M5)))
set_option maxRecDepth 100000 in
set_option maxHeartbeats 4000000 in
theorem l_X13_sailObstacle_L22 {p : Program} {l : Launch} {e : Env} {s : State} {m : MethodId} {args : Array Value} {below : List Frame} {meth : Method} {c : Code} {D : va_G} {tc : Nat → ClassId} {ad : Nat → Nat} (p1 : Int32) (p2 : Int32) {K : Int32 → TM → Prop} (E : Ev p s m args meth c D tc ad RX13 cX13_sailObstacle 3) (hr : meth.sig.returnType = (some .int)) : ∀ (x1 : Int32) (x2 : Int32) (z0 : Int32) (M : TM) , f_X13_sailObstacle_L22 p1 p2 K x1 x2 z0 M → Wa p l e (rmD 3) s m args below meth c 0 0 (MQ below (va_Qi K (EndW D tc ad) (A0 ad s.heap.size)) args s 0 0 (A0 ad s.heap.size)) D tc ad 3 M 22 [(0, .ref (ad 699)), (1, .int x1), (2, .int x2)] [.int z0, .ref (ad 699)] := by
  intro x1 x2 z0 M  h
  unfold f_X13_sailObstacle_L22 at h
  refine ra_callIV (rest := []) E (c_X13_lacks _ _ _ h) lq_13 cv_X13_lacks ml_X13_82 (by decide) (lmM (by decide)) (fun R => ⟨_, cel_699 tc ad R⟩) rfl rfl rfl (Nat.le_of_ble_eq_true rfl) ⟨Nat.le_of_ble_eq_true rfl, Nat.le_of_ble_eq_true rfl⟩ ⟨Nat.zero_le _, Nat.zero_le _⟩ dX13_sailObstacle_22 (fun r6 M5 h => ?_)
  obtain ⟨b7, h⟩ := h
  refine ra_if_eq (tgt := 32) E dX13_sailObstacle_25 (by decide) (fun q8 => ?_) (fun q8 => ?_)
  · replace h := h.1 q8
    refine ra_aload_n E dX13_sailObstacle_32 rfl 0 rfl ?_
    refine ra_iload_n E dX13_sailObstacle_33 rfl 1 rfl ?_
    refine ra_iload_n E dX13_sailObstacle_34 rfl 2 rfl ?_
    refine ra_callIV (rest := []) E (c_X13_whyNotSail _ _ _ _ h) lq_13 cv_X13_whyNotSail ml_X13_217 (by decide) (lmM (by decide)) (fun R => ⟨_, cel_699 tc ad R⟩) rfl rfl rfl (Nat.le_of_ble_eq_true rfl) ⟨Nat.le_of_ble_eq_true rfl, Nat.le_of_ble_eq_true rfl⟩ ⟨Nat.zero_le _, Nat.zero_le _⟩ dX13_sailObstacle_35 (fun r10 M9 h => ?_)
    exact ra_iret E hr dX13_sailObstacle_38 h
  · replace h := h.2 q8
    refine ra_iconst E dX13_sailObstacle_28 ki_0 ?_
    refine ra_goto (tgt := 38) E dX13_sailObstacle_29 (by decide) ?_
    exact ra_iret E hr dX13_sailObstacle_38 h
def f_X13_sailObstacle_L21 (p1 : Int32) (p2 : Int32) (K : Int32 → TM → Prop) (x1 : Int32) (x2 : Int32) (M : TM) : Prop := f_X13_sailObstacle_L22 p1 p2 K x1 x2 (0 : Int32) M
set_option maxRecDepth 100000 in
set_option maxHeartbeats 4000000 in
theorem l_X13_sailObstacle_L21 {p : Program} {l : Launch} {e : Env} {s : State} {m : MethodId} {args : Array Value} {below : List Frame} {meth : Method} {c : Code} {D : va_G} {tc : Nat → ClassId} {ad : Nat → Nat} (p1 : Int32) (p2 : Int32) {K : Int32 → TM → Prop} (E : Ev p s m args meth c D tc ad RX13 cX13_sailObstacle 3) (hr : meth.sig.returnType = (some .int)) : ∀ (x1 : Int32) (x2 : Int32) (M : TM) , f_X13_sailObstacle_L21 p1 p2 K x1 x2 M → Wa p l e (rmD 3) s m args below meth c 0 0 (MQ below (va_Qi K (EndW D tc ad) (A0 ad s.heap.size)) args s 0 0 (A0 ad s.heap.size)) D tc ad 3 M 21 [(0, .ref (ad 699)), (1, .int x1), (2, .int x2)] [.ref (ad 699)] := by
  intro x1 x2 M  h
  unfold f_X13_sailObstacle_L21 at h
  refine ra_iconst E dX13_sailObstacle_21 ki_0 ?_
  exact ra_sub (L' := [(0, _), (1, _), (2, _)]) [0, 1, 2] rfl (l_X13_sailObstacle_L22 p1 p2 E hr _ _ _ _ h)
def f_X13_sailObstacle (p1 : Int32) (p2 : Int32) (M : TM) (K : Int32 → TM → Prop) : Prop := f_X13_isBarge p1 M (fun r2 M1 => ((r2 = 0 → f_X13_sailObstacle_L21 p1 p2 K p1 p2 M1) ∧ (¬ r2 = 0 → f_X13_isPlace p2 M1 (fun r12 M11 => ((r12 = 0 → f_X13_sailObstacle_L21 p1 p2 K p1 p2 M11) ∧ (¬ r12 = 0 → f_X13_sailObstacle_L22 p1 p2 K p1 p2 (1 : Int32) M11))))))
set_option maxRecDepth 100000 in
set_option maxHeartbeats 4000000 in
theorem c_X13_sailObstacle {ad : Nat → Nat} (p1 : Int32) (p2 : Int32) (M : TM) (K : Int32 → TM → Prop) (h : f_X13_sailObstacle p1 p2 M K) : MI yX13_sailObstacle cX13_sailObstacle 3 (some .int) 3 ad [.ref (ad 699), .int p1, .int p2] M K := by
  refine MI_of RX13 rfl (by decide +kernel) (Nat.le_of_ble_eq_true rfl) (fun p l e s m below meth c D tc E hr => ?_)
  unfold f_X13_sailObstacle at h
  refine ra_aload_n E dX13_sailObstacle_0 rfl 0 rfl ?_
  refine ra_aload_n E dX13_sailObstacle_1 rfl 0 rfl ?_
  refine ra_iload_n E dX13_sailObstacle_2 rfl 1 rfl ?_
  refine ra_callIV (rest := [_]) E (c_X13_isBarge _ _ _ h) lq_13 cv_X13_isBarge ml_X13_140 (by decide) (lmM (by decide)) (fun R => ⟨_, cel_699 tc ad R⟩) rfl rfl rfl (Nat.le_of_ble_eq_true rfl) ⟨Nat.le_of_ble_eq_true rfl, Nat.le_of_ble_eq_true rfl⟩ ⟨Nat.zero_le _, Nat.zero_le _⟩ dX13_sailObstacle_3 (fun r2 M1 h => ?_)
  obtain ⟨b3, h⟩ := h
  refine ra_if_eq (tgt := 21) E dX13_sailObstacle_6 (by decide) (fun q4 => ?_) (fun q4 => ?_)
  · replace h := h.1 q4
    exact ra_sub (L' := [(0, _), (1, _), (2, _)]) [0, 1, 2] rfl (l_X13_sailObstacle_L21 p1 p2 E hr _ _ _ h)
  · replace h := h.2 q4
    refine ra_aload_n E dX13_sailObstacle_9 rfl 0 rfl ?_
    refine ra_iload_n E dX13_sailObstacle_10 rfl 2 rfl ?_
    refine ra_callIV (rest := [_]) E (c_X13_isPlace _ _ _ h) lq_13 cv_X13_isPlace ml_X13_131 (by decide) (lmM (by decide)) (fun R => ⟨_, cel_699 tc ad R⟩) rfl rfl rfl (Nat.le_of_ble_eq_true rfl) ⟨Nat.le_of_ble_eq_true rfl, Nat.le_of_ble_eq_true rfl⟩ ⟨Nat.zero_le _, Nat.zero_le _⟩ dX13_sailObstacle_11 (fun r12 M11 h => ?_)
    obtain ⟨b13, h⟩ := h
    refine ra_if_eq (tgt := 21) E dX13_sailObstacle_14 (by decide) (fun q14 => ?_) (fun q14 => ?_)
    · replace h := h.1 q14
      exact ra_sub (L' := [(0, _), (1, _), (2, _)]) [0, 1, 2] rfl (l_X13_sailObstacle_L21 p1 p2 E hr _ _ _ h)
    · replace h := h.2 q14
      refine ra_iconst E dX13_sailObstacle_17 ki_1 ?_
      refine ra_goto (tgt := 22) E dX13_sailObstacle_18 (by decide) ?_
      exact ra_sub (L' := [(0, _), (1, _), (2, _)]) [0, 1, 2] rfl (l_X13_sailObstacle_L22 p1 p2 E hr _ _ _ _ h)
def f_X13_timeFor_L9 (p1 : Int32) (p2 : Int32) (K : Int32 → TM → Prop) : Nat → Int32 → Int32 → Int32 → Int32 → TM → Prop
  | 0, _, _, _, _, _ => False
  | n + 1, x1, x2, x3, x4, M => f_X13_most x1 x2 M (fun r4 M3 => ((r4 ≤ x4 → K x3 M3) ∧ (¬ r4 ≤ x4 → vp_in (M3 699 6) 2 ∧ vp_in ((10 : Int32) + x4) 377 ∧ f_X13_timeFor_L9 p1 p2 K n x1 x2 (x3 + ((1 : Int32) + (M3 (700 + (M3 699 6).toNatClampNeg) ((10 : Int32) + x4).toNatClampNeg))) (x4 + 1) M3)))
set_option maxRecDepth 100000 in
set_option maxHeartbeats 4000000 in
theorem l_X13_timeFor_L9 {p : Program} {l : Launch} {e : Env} {s : State} {m : MethodId} {args : Array Value} {below : List Frame} {meth : Method} {c : Code} {D : va_G} {tc : Nat → ClassId} {ad : Nat → Nat} (p1 : Int32) (p2 : Int32) {K : Int32 → TM → Prop} (E : Ev p s m args meth c D tc ad RX13 cX13_timeFor 5) (hr : meth.sig.returnType = (some .int)) : ∀ (n : Nat) (x1 : Int32) (x2 : Int32) (x3 : Int32) (x4 : Int32) (M : TM) , f_X13_timeFor_L9 p1 p2 K n x1 x2 x3 x4 M → Wa p l e (rmD 1) s m args below meth c 0 0 (MQ below (va_Qi K (EndW D tc ad) (A0 ad s.heap.size)) args s 0 0 (A0 ad s.heap.size)) D tc ad 5 M 9 [(0, .ref (ad 699)), (1, .int x1), (2, .int x2), (3, .int x3), (4, .int x4)] [] := by
  intro n
  induction n with
  | zero => intro x1 x2 x3 x4 M  h; exact h.elim
  | succ n ih =>
    intro x1 x2 x3 x4 M  h
    unfold f_X13_timeFor_L9 at h
    refine ra_iload E dX13_timeFor_9 4 rfl ?_
    refine ra_iload_n E dX13_timeFor_11 rfl 1 rfl ?_
    refine ra_iload_n E dX13_timeFor_12 rfl 2 rfl ?_
    refine ra_callIS (rest := [_]) E (c_X13_most _ _ _ _ h) lq_13 ct_X13_most ml_X13_211 (by decide) rfl rfl (Nat.le_of_ble_eq_true rfl) ⟨Nat.le_of_ble_eq_true rfl, Nat.le_of_ble_eq_true rfl⟩ ⟨Nat.zero_le _, Nat.zero_le _⟩ dX13_timeFor_13 (fun r4 M3 h => ?_)
    refine ra_icmp_ge (tgt := 40) E dX13_timeFor_16 (by decide) (fun q5 => ?_) (fun q5 => ?_)
    · replace h := h.1 q5
      refine ra_iload_n E dX13_timeFor_40 rfl 3 rfl ?_
      exact ra_iret E hr dX13_timeFor_41 h
    · replace h := h.2 q5
      refine ra_iload_n E dX13_timeFor_19 rfl 3 rfl ?_
      refine ra_iconst E dX13_timeFor_20 ki_1 ?_
      refine ra_aload_n E dX13_timeFor_21 rfl 0 rfl ?_
      obtain ⟨g6, h⟩ := h
      refine gf_X13_6 E lm13 fl_X13_28 dX13_timeFor_22 ?_
      refine ra_bipush E dX13_timeFor_25 kb_10 ?_
      refine ra_iload E dX13_timeFor_27 4 rfl ?_
      refine ra_iadd E dX13_timeFor_29 ?_
      obtain ⟨g7, h⟩ := h
      refine ra_iald E (lmM (isRow_of g6).lt) (cel_row tc ad (isRow_of g6)) g7 dX13_timeFor_30 ?_
      refine ra_iadd E dX13_timeFor_31 ?_
      refine ra_iadd E dX13_timeFor_32 ?_
      refine ra_istore_n (L' := [(3, _), (0, _), (1, _), (2, _), (4, _)]) E dX13_timeFor_33 rfl (by decide) rfl ?_
      refine ra_iinc1 (L' := [(4, _), (3, _), (0, _), (1, _), (2, _)]) E dX13_timeFor_34 4 rfl (by decide) rfl ?_
      refine ra_goto (tgt := 9) E dX13_timeFor_37 (by decide) ?_
      exact ra_sub (L' := [(0, _), (1, _), (2, _), (3, _), (4, _)]) [2, 3, 4, 1, 0] rfl (ih _ _ _ _ _ h)
def f_X13_timeFor (p1 : Int32) (p2 : Int32) (M : TM) (K : Int32 → TM → Prop) : Prop := f_X13_least p1 p2 M (fun r2 M1 => ∃ n, f_X13_timeFor_L9 p1 p2 K n p1 p2 (0 : Int32) r2 M1)
set_option maxRecDepth 100000 in
set_option maxHeartbeats 4000000 in
theorem c_X13_timeFor {ad : Nat → Nat} (p1 : Int32) (p2 : Int32) (M : TM) (K : Int32 → TM → Prop) (h : f_X13_timeFor p1 p2 M K) : MI yX13_timeFor cX13_timeFor 5 (some .int) 1 ad [.ref (ad 699), .int p1, .int p2] M K := by
  refine MI_of RX13 rfl (by decide +kernel) (Nat.le_of_ble_eq_true rfl) (fun p l e s m below meth c D tc E hr => ?_)
  unfold f_X13_timeFor at h
  refine ra_iconst E dX13_timeFor_0 ki_0 ?_
  refine ra_istore_n (L' := [(3, _), (0, _), (1, _), (2, _)]) E dX13_timeFor_1 rfl (by decide) rfl ?_
  refine ra_iload_n E dX13_timeFor_2 rfl 2 rfl ?_
  refine ra_iload_n E dX13_timeFor_3 rfl 3 rfl ?_
  refine ra_callIS (rest := []) E (c_X13_least _ _ _ _ h) lq_13 ct_X13_least ml_X13_208 (by decide) rfl rfl (Nat.le_of_ble_eq_true rfl) ⟨Nat.le_of_ble_eq_true rfl, Nat.le_of_ble_eq_true rfl⟩ ⟨Nat.zero_le _, Nat.zero_le _⟩ dX13_timeFor_4 (fun r2 M1 h => ?_)
  refine ra_istore (L' := [(4, _), (3, _), (0, _), (1, _), (2, _)]) E dX13_timeFor_7 (by decide) rfl ?_
  obtain ⟨n8, h⟩ := h
  exact ra_sub (L' := [(0, _), (1, _), (2, _), (3, _), (4, _)]) [2, 3, 4, 1, 0] rfl (l_X13_timeFor_L9 p1 p2 E hr n8 _ _ _ _ _ h)
def f_X13_journeyTime_L22 (p1 : Int32) (p2 : Int32) (K : Int32 → TM → Prop) (x1 : Int32) (x2 : Int32) (z0 : Int32) (M : TM) : Prop := f_X13_lacks z0 M (fun r6 M5 => ((r6 = 0 → f_X13_timeFor x1 x2 M5 (fun r10 M9 => K r10 M9)) ∧ (¬ r6 = 0 → K (0 : Int32) M5)))
set_option maxRecDepth 100000 in
set_option maxHeartbeats 4000000 in
theorem l_X13_journeyTime_L22 {p : Program} {l : Launch} {e : Env} {s : State} {m : MethodId} {args : Array Value} {below : List Frame} {meth : Method} {c : Code} {D : va_G} {tc : Nat → ClassId} {ad : Nat → Nat} (p1 : Int32) (p2 : Int32) {K : Int32 → TM → Prop} (E : Ev p s m args meth c D tc ad RX13 cX13_journeyTime 3) (hr : meth.sig.returnType = (some .int)) : ∀ (x1 : Int32) (x2 : Int32) (z0 : Int32) (M : TM) , f_X13_journeyTime_L22 p1 p2 K x1 x2 z0 M → Wa p l e (rmD 2) s m args below meth c 0 0 (MQ below (va_Qi K (EndW D tc ad) (A0 ad s.heap.size)) args s 0 0 (A0 ad s.heap.size)) D tc ad 3 M 22 [(0, .ref (ad 699)), (1, .int x1), (2, .int x2)] [.int z0, .ref (ad 699)] := by
  intro x1 x2 z0 M  h
  unfold f_X13_journeyTime_L22 at h
  refine ra_callIV (rest := []) E (c_X13_lacks _ _ _ h) lq_13 cv_X13_lacks ml_X13_82 (by decide) (lmM (by decide)) (fun R => ⟨_, cel_699 tc ad R⟩) rfl rfl rfl (Nat.le_of_ble_eq_true rfl) ⟨Nat.le_of_ble_eq_true rfl, Nat.le_of_ble_eq_true rfl⟩ ⟨Nat.zero_le _, Nat.zero_le _⟩ dX13_journeyTime_22 (fun r6 M5 h => ?_)
  obtain ⟨b7, h⟩ := h
  refine ra_if_eq (tgt := 32) E dX13_journeyTime_25 (by decide) (fun q8 => ?_) (fun q8 => ?_)
  · replace h := h.1 q8
    refine ra_aload_n E dX13_journeyTime_32 rfl 0 rfl ?_
    refine ra_iload_n E dX13_journeyTime_33 rfl 1 rfl ?_
    refine ra_iload_n E dX13_journeyTime_34 rfl 2 rfl ?_
    refine ra_callIV (rest := []) E (c_X13_timeFor _ _ _ _ h) lq_13 cv_X13_timeFor ml_X13_220 (by decide) (lmM (by decide)) (fun R => ⟨_, cel_699 tc ad R⟩) rfl rfl rfl (Nat.le_of_ble_eq_true rfl) ⟨Nat.le_of_ble_eq_true rfl, Nat.le_of_ble_eq_true rfl⟩ ⟨Nat.zero_le _, Nat.zero_le _⟩ dX13_journeyTime_35 (fun r10 M9 h => ?_)
    exact ra_iret E hr dX13_journeyTime_38 h
  · replace h := h.2 q8
    refine ra_iconst E dX13_journeyTime_28 ki_0 ?_
    refine ra_goto (tgt := 38) E dX13_journeyTime_29 (by decide) ?_
    exact ra_iret E hr dX13_journeyTime_38 h
def f_X13_journeyTime_L21 (p1 : Int32) (p2 : Int32) (K : Int32 → TM → Prop) (x1 : Int32) (x2 : Int32) (M : TM) : Prop := f_X13_journeyTime_L22 p1 p2 K x1 x2 (0 : Int32) M
set_option maxRecDepth 100000 in
set_option maxHeartbeats 4000000 in
theorem l_X13_journeyTime_L21 {p : Program} {l : Launch} {e : Env} {s : State} {m : MethodId} {args : Array Value} {below : List Frame} {meth : Method} {c : Code} {D : va_G} {tc : Nat → ClassId} {ad : Nat → Nat} (p1 : Int32) (p2 : Int32) {K : Int32 → TM → Prop} (E : Ev p s m args meth c D tc ad RX13 cX13_journeyTime 3) (hr : meth.sig.returnType = (some .int)) : ∀ (x1 : Int32) (x2 : Int32) (M : TM) , f_X13_journeyTime_L21 p1 p2 K x1 x2 M → Wa p l e (rmD 2) s m args below meth c 0 0 (MQ below (va_Qi K (EndW D tc ad) (A0 ad s.heap.size)) args s 0 0 (A0 ad s.heap.size)) D tc ad 3 M 21 [(0, .ref (ad 699)), (1, .int x1), (2, .int x2)] [.ref (ad 699)] := by
  intro x1 x2 M  h
  unfold f_X13_journeyTime_L21 at h
  refine ra_iconst E dX13_journeyTime_21 ki_0 ?_
  exact ra_sub (L' := [(0, _), (1, _), (2, _)]) [0, 1, 2] rfl (l_X13_journeyTime_L22 p1 p2 E hr _ _ _ _ h)
def f_X13_journeyTime (p1 : Int32) (p2 : Int32) (M : TM) (K : Int32 → TM → Prop) : Prop := f_X13_isPlace p1 M (fun r2 M1 => ((r2 = 0 → f_X13_journeyTime_L21 p1 p2 K p1 p2 M1) ∧ (¬ r2 = 0 → f_X13_isPlace p2 M1 (fun r12 M11 => ((r12 = 0 → f_X13_journeyTime_L21 p1 p2 K p1 p2 M11) ∧ (¬ r12 = 0 → f_X13_journeyTime_L22 p1 p2 K p1 p2 (1 : Int32) M11))))))
set_option maxRecDepth 100000 in
set_option maxHeartbeats 4000000 in
theorem c_X13_journeyTime {ad : Nat → Nat} (p1 : Int32) (p2 : Int32) (M : TM) (K : Int32 → TM → Prop) (h : f_X13_journeyTime p1 p2 M K) : MI yX13_journeyTime cX13_journeyTime 3 (some .int) 2 ad [.ref (ad 699), .int p1, .int p2] M K := by
  refine MI_of RX13 rfl (by decide +kernel) (Nat.le_of_ble_eq_true rfl) (fun p l e s m below meth c D tc E hr => ?_)
  unfold f_X13_journeyTime at h
  refine ra_aload_n E dX13_journeyTime_0 rfl 0 rfl ?_
  refine ra_aload_n E dX13_journeyTime_1 rfl 0 rfl ?_
  refine ra_iload_n E dX13_journeyTime_2 rfl 1 rfl ?_
  refine ra_callIV (rest := [_]) E (c_X13_isPlace _ _ _ h) lq_13 cv_X13_isPlace ml_X13_131 (by decide) (lmM (by decide)) (fun R => ⟨_, cel_699 tc ad R⟩) rfl rfl rfl (Nat.le_of_ble_eq_true rfl) ⟨Nat.le_of_ble_eq_true rfl, Nat.le_of_ble_eq_true rfl⟩ ⟨Nat.zero_le _, Nat.zero_le _⟩ dX13_journeyTime_3 (fun r2 M1 h => ?_)
  obtain ⟨b3, h⟩ := h
  refine ra_if_eq (tgt := 21) E dX13_journeyTime_6 (by decide) (fun q4 => ?_) (fun q4 => ?_)
  · replace h := h.1 q4
    exact ra_sub (L' := [(0, _), (1, _), (2, _)]) [0, 1, 2] rfl (l_X13_journeyTime_L21 p1 p2 E hr _ _ _ h)
  · replace h := h.2 q4
    refine ra_aload_n E dX13_journeyTime_9 rfl 0 rfl ?_
    refine ra_iload_n E dX13_journeyTime_10 rfl 2 rfl ?_
    refine ra_callIV (rest := [_]) E (c_X13_isPlace _ _ _ h) lq_13 cv_X13_isPlace ml_X13_131 (by decide) (lmM (by decide)) (fun R => ⟨_, cel_699 tc ad R⟩) rfl rfl rfl (Nat.le_of_ble_eq_true rfl) ⟨Nat.le_of_ble_eq_true rfl, Nat.le_of_ble_eq_true rfl⟩ ⟨Nat.zero_le _, Nat.zero_le _⟩ dX13_journeyTime_11 (fun r12 M11 h => ?_)
    obtain ⟨b13, h⟩ := h
    refine ra_if_eq (tgt := 21) E dX13_journeyTime_14 (by decide) (fun q14 => ?_) (fun q14 => ?_)
    · replace h := h.1 q14
      exact ra_sub (L' := [(0, _), (1, _), (2, _)]) [0, 1, 2] rfl (l_X13_journeyTime_L21 p1 p2 E hr _ _ _ h)
    · replace h := h.2 q14
      refine ra_iconst E dX13_journeyTime_17 ki_1 ?_
      refine ra_goto (tgt := 22) E dX13_journeyTime_18 (by decide) ?_
      exact ra_sub (L' := [(0, _), (1, _), (2, _)]) [0, 1, 2] rfl (l_X13_journeyTime_L22 p1 p2 E hr _ _ _ _ h)
def f_X13_copy (a0 : Nat) (n0 : Nat) (p1 : Int32) (a2 : Nat) (n2 : Nat) (p3 : Int32) (M : TM) (K : TM → Prop) : Prop := (¬ ((377 : Int32) * p1) < 0 ∧ ¬ ((377 : Int32) * p3) < 0 ∧ ¬ (377 : Int32) < 0 ∧ ((377 : Int32) * p1).toNatClampNeg + (377 : Int32).toNatClampNeg ≤ n0 ∧ ((377 : Int32) * p3).toNatClampNeg + (377 : Int32).toNatClampNeg ≤ n2) ∧ ∀ M2, M2 = uR M a2 (va_cpy (M a0) (M a2) ((377 : Int32) * p1).toNatClampNeg ((377 : Int32) * p3).toNatClampNeg (377 : Int32).toNatClampNeg) → K M2
set_option maxRecDepth 100000 in
set_option maxHeartbeats 4000000 in
theorem c_X13_copy {ad : Nat → Nat} (a0 : Nat) (n0 : Nat) (h0 : IsArr a0 n0) (p1 : Int32) (a2 : Nat) (n2 : Nat) (h2 : IsArr a2 n2) (p3 : Int32) (M : TM) (K : TM → Prop) (h : f_X13_copy a0 n0 p1 a2 n2 p3 M K) : MV yX13_copy cX13_copy 4 1 ad [.ref (ad a0), .int p1, .ref (ad a2), .int p3] M K := by
  refine MV_of RX13 rfl (by decide +kernel) (Nat.le_of_ble_eq_true rfl) (fun p l e s m below meth c D tc E hr => ?_)
  unfold f_X13_copy at h
  refine ra_aload_n E dX13_copy_0 rfl 0 rfl ?_
  refine ra_sipush E dX13_copy_1 ks_377 ?_
  refine ra_iload_n E dX13_copy_4 rfl 1 rfl ?_
  refine ra_imul E dX13_copy_5 ?_
  refine ra_aload_n E dX13_copy_6 rfl 2 rfl ?_
  refine ra_sipush E dX13_copy_7 ks_377 ?_
  refine ra_iload_n E dX13_copy_10 rfl 3 rfl ?_
  refine ra_imul E dX13_copy_11 ?_
  refine ra_sipush E dX13_copy_12 ks_377 ?_
  obtain ⟨g1, h⟩ := h
  refine ra_copyi E (lmM h0.1) (h0.2 tc ad) (lmM h2.1) (h2.2 tc ad) g1 ml_X13_223 ⟨Nat.le_of_ble_eq_true rfl, Nat.le_of_ble_eq_true rfl⟩ dX13_copy_15 ?_
  replace h := h _ rfl
  exact ra_vret E hr dX13_copy_18 h
def f_X13_foresee (p1 : Int32) (M : TM) (K : TM → Prop) : Prop := vp_in (M 699 6) 2 ∧ f_X13_copy (700 + (M 699 6).toNatClampNeg) 377 (0 : Int32) 702 377 (0 : Int32) M (fun M2 => f_X13_pass p1 M2 (fun r4 M3 => K M3))
set_option maxRecDepth 100000 in
set_option maxHeartbeats 4000000 in
theorem c_X13_foresee {ad : Nat → Nat} (p1 : Int32) (M : TM) (K : TM → Prop) (h : f_X13_foresee p1 M K) : MV yX13_foresee cX13_foresee 3 8 ad [.ref (ad 699), .int p1] M K := by
  refine MV_of RX13 rfl (by decide +kernel) (Nat.le_of_ble_eq_true rfl) (fun p l e s m below meth c D tc E hr => ?_)
  unfold f_X13_foresee at h
  refine ra_aload_n E dX13_foresee_0 rfl 0 rfl ?_
  obtain ⟨g1, h⟩ := h
  refine gf_X13_6 E lm13 fl_X13_28 dX13_foresee_1 ?_
  refine ra_iconst E dX13_foresee_4 ki_0 ?_
  refine ra_aload_n E dX13_foresee_5 rfl 0 rfl ?_
  refine gf_X13_2 E lm13 fl_X13_16 dX13_foresee_6 ?_
  refine ra_iconst E dX13_foresee_9 ki_0 ?_
  refine ra_callVS (rest := []) E (c_X13_copy _ _ (⟨(isRow_of g1).lt, fun tc ad => (cel_row tc ad (isRow_of g1))⟩) _ _ _ (⟨(by decide), fun tc ad => (cel_702 tc ad)⟩) _ _ _ h) lq_13 ct_X13_copy ml_X13_229 (by decide) rfl rfl (Nat.le_of_ble_eq_true rfl) ⟨Nat.le_of_ble_eq_true rfl, Nat.le_of_ble_eq_true rfl⟩ ⟨Nat.zero_le _, Nat.zero_le _⟩ dX13_foresee_10 (fun M2 h => ?_)
  refine ra_aload_n E dX13_foresee_13 rfl 0 rfl ?_
  refine ra_iload_n E dX13_foresee_14 rfl 1 rfl ?_
  refine ra_callIV (rest := []) E (c_X13_pass _ _ _ h) lq_13 cv_X13_pass ml_X13_233 (by decide) (lmM (by decide)) (fun R => ⟨_, cel_699 tc ad R⟩) rfl rfl rfl (Nat.le_of_ble_eq_true rfl) ⟨Nat.le_of_ble_eq_true rfl, Nat.le_of_ble_eq_true rfl⟩ ⟨Nat.zero_le _, Nat.zero_le _⟩ dX13_foresee_15 (fun r4 M3 h => ?_)
  refine ra_istore_n (L' := [(2, _), (0, _), (1, _)]) E dX13_foresee_18 rfl (by decide) rfl ?_
  exact ra_vret E hr dX13_foresee_19 h
def f_X13_laidBack (p1 : Int32) (M : TM) (K : Int32 → TM → Prop) : Prop := vp_in (M 699 6) 2 ∧ f_X13_copy 702 377 (0 : Int32) (700 + (M 699 6).toNatClampNeg) 377 (0 : Int32) M (fun M2 => K p1 M2)
set_option maxRecDepth 100000 in
set_option maxHeartbeats 4000000 in
theorem c_X13_laidBack {ad : Nat → Nat} (p1 : Int32) (M : TM) (K : Int32 → TM → Prop) (h : f_X13_laidBack p1 M K) : MI yX13_laidBack cX13_laidBack 2 (some .int) 2 ad [.ref (ad 699), .int p1] M K := by
  refine MI_of RX13 rfl (by decide +kernel) (Nat.le_of_ble_eq_true rfl) (fun p l e s m below meth c D tc E hr => ?_)
  unfold f_X13_laidBack at h
  refine ra_aload_n E dX13_laidBack_0 rfl 0 rfl ?_
  refine gf_X13_2 E lm13 fl_X13_16 dX13_laidBack_1 ?_
  refine ra_iconst E dX13_laidBack_4 ki_0 ?_
  refine ra_aload_n E dX13_laidBack_5 rfl 0 rfl ?_
  obtain ⟨g1, h⟩ := h
  refine gf_X13_6 E lm13 fl_X13_28 dX13_laidBack_6 ?_
  refine ra_iconst E dX13_laidBack_9 ki_0 ?_
  refine ra_callVS (rest := []) E (c_X13_copy _ _ (⟨(by decide), fun tc ad => (cel_702 tc ad)⟩) _ _ _ (⟨(isRow_of g1).lt, fun tc ad => (cel_row tc ad (isRow_of g1))⟩) _ _ _ h) lq_13 ct_X13_copy ml_X13_229 (by decide) rfl rfl (Nat.le_of_ble_eq_true rfl) ⟨Nat.le_of_ble_eq_true rfl, Nat.le_of_ble_eq_true rfl⟩ ⟨Nat.zero_le _, Nat.zero_le _⟩ dX13_laidBack_10 (fun M2 h => ?_)
  refine ra_iload_n E dX13_laidBack_13 rfl 1 rfl ?_
  exact ra_iret E hr dX13_laidBack_14 h
def f_X13_untilThere_L2 (p1 : Int32) (K : Int32 → TM → Prop) : Nat → Int32 → Int32 → TM → Prop
  | 0, _, _, _ => False
  | n + 1, x1, x2, M => (((200 : Int32) < x2 → K (-1 : Int32) M) ∧ (¬ (200 : Int32) < x2 → f_X13_sails x1 M (fun r3 M2 => ((¬ r3 = 0 → f_X13_passMinute M2 (fun r7 M6 => f_X13_untilThere_L2 p1 K n x1 (x2 + 1) M6)) ∧ (r3 = 0 → K x2 M2)))))
set_option maxRecDepth 100000 in
set_option maxHeartbeats 4000000 in
theorem l_X13_untilThere_L2 {p : Program} {l : Launch} {e : Env} {s : State} {m : MethodId} {args : Array Value} {below : List Frame} {meth : Method} {c : Code} {D : va_G} {tc : Nat → ClassId} {ad : Nat → Nat} (p1 : Int32) {K : Int32 → TM → Prop} (E : Ev p s m args meth c D tc ad RX13 cX13_untilThere 4) (hr : meth.sig.returnType = (some .int)) : ∀ (n : Nat) (x1 : Int32) (x2 : Int32) (M : TM) , f_X13_untilThere_L2 p1 K n x1 x2 M → Wa p l e (rmD 7) s m args below meth c 0 0 (MQ below (va_Qi K (EndW D tc ad) (A0 ad s.heap.size)) args s 0 0 (A0 ad s.heap.size)) D tc ad 4 M 2 [(0, .ref (ad 699)), (1, .int x1), (2, .int x2)] [] := by
  intro n
  induction n with
  | zero => intro x1 x2 M  h; exact h.elim
  | succ n ih =>
    intro x1 x2 M  h
    unfold f_X13_untilThere_L2 at h
    refine ra_iload_n E dX13_untilThere_2 rfl 2 rfl ?_
    refine ra_sipush E dX13_untilThere_3 ks_200 ?_
    refine ra_icmp_gt (tgt := 30) E dX13_untilThere_6 (by decide) (fun q1 => ?_) (fun q1 => ?_)
    · replace h := h.1 q1
      refine ra_iconst E dX13_untilThere_30 ki_m1 ?_
      exact ra_iret E hr dX13_untilThere_31 h
    · replace h := h.2 q1
      refine ra_aload_n E dX13_untilThere_9 rfl 0 rfl ?_
      refine ra_iload_n E dX13_untilThere_10 rfl 1 rfl ?_
      refine ra_callIV (rest := []) E (c_X13_sails _ _ _ h) lq_13 cv_X13_sails ml_X13_189 (by decide) (lmM (by decide)) (fun R => ⟨_, cel_699 tc ad R⟩) rfl rfl rfl (Nat.le_of_ble_eq_true rfl) ⟨Nat.le_of_ble_eq_true rfl, Nat.le_of_ble_eq_true rfl⟩ ⟨Nat.zero_le _, Nat.zero_le _⟩ dX13_untilThere_11 (fun r3 M2 h => ?_)
      obtain ⟨b4, h⟩ := h
      refine ra_if_ne (tgt := 19) E dX13_untilThere_14 (by decide) (fun q5 => ?_) (fun q5 => ?_)
      · replace h := h.1 q5
        refine ra_aload_n E dX13_untilThere_19 rfl 0 rfl ?_
        refine ra_callIV (rest := []) E (c_X13_passMinute _ _ h) lq_13 cv_X13_passMinute ml_X13_204 (by decide) (lmM (by decide)) (fun R => ⟨_, cel_699 tc ad R⟩) rfl rfl rfl (Nat.le_of_ble_eq_true rfl) ⟨Nat.le_of_ble_eq_true rfl, Nat.le_of_ble_eq_true rfl⟩ ⟨Nat.zero_le _, Nat.zero_le _⟩ dX13_untilThere_20 (fun r7 M6 h => ?_)
        refine ra_istore_n (L' := [(3, _), (0, _), (1, _), (2, _)]) E dX13_untilThere_23 rfl (by decide) rfl ?_
        refine ra_iinc1 (L' := [(2, _), (3, _), (0, _), (1, _)]) E dX13_untilThere_24 3 rfl (by decide) rfl ?_
        refine ra_goto (tgt := 2) E dX13_untilThere_27 (by decide) ?_
        exact ra_sub (L' := [(0, _), (1, _), (2, _)]) [2, 3, 0] rfl (ih _ _ _ h)
      · replace h := h.2 q5
        refine ra_iload_n E dX13_untilThere_17 rfl 2 rfl ?_
        exact ra_iret E hr dX13_untilThere_18 h
def f_X13_untilThere (p1 : Int32) (M : TM) (K : Int32 → TM → Prop) : Prop := ∃ n, f_X13_untilThere_L2 p1 K n p1 (0 : Int32) M
set_option maxRecDepth 100000 in
set_option maxHeartbeats 4000000 in
theorem c_X13_untilThere {ad : Nat → Nat} (p1 : Int32) (M : TM) (K : Int32 → TM → Prop) (h : f_X13_untilThere p1 M K) : MI yX13_untilThere cX13_untilThere 4 (some .int) 7 ad [.ref (ad 699), .int p1] M K := by
  refine MI_of RX13 rfl (by decide +kernel) (Nat.le_of_ble_eq_true rfl) (fun p l e s m below meth c D tc E hr => ?_)
  unfold f_X13_untilThere at h
  refine ra_iconst E dX13_untilThere_0 ki_0 ?_
  refine ra_istore_n (L' := [(2, _), (0, _), (1, _)]) E dX13_untilThere_1 rfl (by decide) rfl ?_
  obtain ⟨n8, h⟩ := h
  exact ra_sub (L' := [(0, _), (1, _), (2, _)]) [1, 2, 0] rfl (l_X13_untilThere_L2 p1 E hr n8 _ _ _ h)
def f_X13_minutesToTarget (p1 : Int32) (M : TM) (K : Int32 → TM → Prop) : Prop := f_X13_isBarge p1 M (fun r2 M1 => f_X13_lacks r2 M1 (fun r5 M4 => ((r5 = 0 → f_X13_foresee (0 : Int32) M4 (fun M8 => f_X13_untilThere p1 M8 (fun r10 M9 => f_X13_laidBack r10 M9 (fun r12 M11 => K r12 M11)))) ∧ (¬ r5 = 0 → K (0 : Int32) M4))))
set_option maxRecDepth 100000 in
set_option maxHeartbeats 4000000 in
theorem c_X13_minutesToTarget {ad : Nat → Nat} (p1 : Int32) (M : TM) (K : Int32 → TM → Prop) (h : f_X13_minutesToTarget p1 M K) : MI yX13_minutesToTarget cX13_minutesToTarget 2 (some .int) 9 ad [.ref (ad 699), .int p1] M K := by
  refine MI_of RX13 rfl (by decide +kernel) (Nat.le_of_ble_eq_true rfl) (fun p l e s m below meth c D tc E hr => ?_)
  unfold f_X13_minutesToTarget at h
  refine ra_aload_n E dX13_minutesToTarget_0 rfl 0 rfl ?_
  refine ra_aload_n E dX13_minutesToTarget_1 rfl 0 rfl ?_
  refine ra_iload_n E dX13_minutesToTarget_2 rfl 1 rfl ?_
  refine ra_callIV (rest := [_]) E (c_X13_isBarge _ _ _ h) lq_13 cv_X13_isBarge ml_X13_140 (by decide) (lmM (by decide)) (fun R => ⟨_, cel_699 tc ad R⟩) rfl rfl rfl (Nat.le_of_ble_eq_true rfl) ⟨Nat.le_of_ble_eq_true rfl, Nat.le_of_ble_eq_true rfl⟩ ⟨Nat.zero_le _, Nat.zero_le _⟩ dX13_minutesToTarget_3 (fun r2 M1 h => ?_)
  obtain ⟨b3, h⟩ := h
  refine ra_callIV (rest := []) E (c_X13_lacks _ _ _ h) lq_13 cv_X13_lacks ml_X13_82 (by decide) (lmM (by decide)) (fun R => ⟨_, cel_699 tc ad R⟩) rfl rfl rfl (Nat.le_of_ble_eq_true rfl) ⟨Nat.le_of_ble_eq_true rfl, Nat.le_of_ble_eq_true rfl⟩ ⟨Nat.zero_le _, Nat.zero_le _⟩ dX13_minutesToTarget_6 (fun r5 M4 h => ?_)
  obtain ⟨b6, h⟩ := h
  refine ra_if_eq (tgt := 14) E dX13_minutesToTarget_9 (by decide) (fun q7 => ?_) (fun q7 => ?_)
  · replace h := h.1 q7
    refine ra_aload_n E dX13_minutesToTarget_14 rfl 0 rfl ?_
    refine ra_iconst E dX13_minutesToTarget_15 ki_0 ?_
    refine ra_callVV (rest := []) E (c_X13_foresee _ _ _ h) lq_13 cv_X13_foresee ml_X13_236 (by decide) (lmM (by decide)) (fun R => ⟨_, cel_699 tc ad R⟩) rfl rfl rfl (Nat.le_of_ble_eq_true rfl) ⟨Nat.le_of_ble_eq_true rfl, Nat.le_of_ble_eq_true rfl⟩ ⟨Nat.zero_le _, Nat.zero_le _⟩ dX13_minutesToTarget_16 (fun M8 h => ?_)
    refine ra_aload_n E dX13_minutesToTarget_19 rfl 0 rfl ?_
    refine ra_aload_n E dX13_minutesToTarget_20 rfl 0 rfl ?_
    refine ra_iload_n E dX13_minutesToTarget_21 rfl 1 rfl ?_
    refine ra_callIV (rest := [_]) E (c_X13_untilThere _ _ _ h) lq_13 cv_X13_untilThere ml_X13_239 (by decide) (lmM (by decide)) (fun R => ⟨_, cel_699 tc ad R⟩) rfl rfl rfl (Nat.le_of_ble_eq_true rfl) ⟨Nat.le_of_ble_eq_true rfl, Nat.le_of_ble_eq_true rfl⟩ ⟨Nat.zero_le _, Nat.zero_le _⟩ dX13_minutesToTarget_22 (fun r10 M9 h => ?_)
    refine ra_callIV (rest := []) E (c_X13_laidBack _ _ _ h) lq_13 cv_X13_laidBack ml_X13_242 (by decide) (lmM (by decide)) (fun R => ⟨_, cel_699 tc ad R⟩) rfl rfl rfl (Nat.le_of_ble_eq_true rfl) ⟨Nat.le_of_ble_eq_true rfl, Nat.le_of_ble_eq_true rfl⟩ ⟨Nat.zero_le _, Nat.zero_le _⟩ dX13_minutesToTarget_25 (fun r12 M11 h => ?_)
    exact ra_iret E hr dX13_minutesToTarget_28 h
  · replace h := h.2 q7
    refine ra_iconst E dX13_minutesToTarget_12 ki_0 ?_
    exact ra_iret E hr dX13_minutesToTarget_13 h
def f_X13_willBeEaten (p1 : Int32) (M : TM) (K : Int32 → TM → Prop) : Prop := f_X13_isOrder p1 M (fun r2 M1 => f_X13_lacks r2 M1 (fun r5 M4 => ((r5 = 0 → f_X13_foresee (200 : Int32) M4 (fun M8 => f_X13_isIn p1 (3 : Int32) M8 (fun r10 M9 => ((r10 = 0 → f_X13_laidBack (0 : Int32) M9 (fun r14 M13 => ((¬ r14 = (1 : Int32) → K (0 : Int32) M13) ∧ (r14 = (1 : Int32) → K (1 : Int32) M13)))) ∧ (¬ r10 = 0 → f_X13_laidBack (1 : Int32) M9 (fun r17 M16 => ((¬ r17 = (1 : Int32) → K (0 : Int32) M16) ∧ (r17 = (1 : Int32) → K (1 : Int32) M16)))))))) ∧ (¬ r5 = 0 → K (0 : Int32) M4))))
set_option maxRecDepth 100000 in
set_option maxHeartbeats 4000000 in
theorem c_X13_willBeEaten {ad : Nat → Nat} (p1 : Int32) (M : TM) (K : Int32 → TM → Prop) (h : f_X13_willBeEaten p1 M K) : MI yX13_willBeEaten cX13_willBeEaten 2 (some .boolean) 9 ad [.ref (ad 699), .int p1] M (fun r M' => (r = 0 ∨ r = 1) ∧ K r M') := by
  refine MI_of RX13 rfl (by decide +kernel) (Nat.le_of_ble_eq_true rfl) (fun p l e s m below meth c D tc E hr => ?_)
  unfold f_X13_willBeEaten at h
  refine ra_aload_n E dX13_willBeEaten_0 rfl 0 rfl ?_
  refine ra_aload_n E dX13_willBeEaten_1 rfl 0 rfl ?_
  refine ra_iload_n E dX13_willBeEaten_2 rfl 1 rfl ?_
  refine ra_callIV (rest := [_]) E (c_X13_isOrder _ _ _ h) lq_13 cv_X13_isOrder ml_X13_152 (by decide) (lmM (by decide)) (fun R => ⟨_, cel_699 tc ad R⟩) rfl rfl rfl (Nat.le_of_ble_eq_true rfl) ⟨Nat.le_of_ble_eq_true rfl, Nat.le_of_ble_eq_true rfl⟩ ⟨Nat.zero_le _, Nat.zero_le _⟩ dX13_willBeEaten_3 (fun r2 M1 h => ?_)
  obtain ⟨b3, h⟩ := h
  refine ra_callIV (rest := []) E (c_X13_lacks _ _ _ h) lq_13 cv_X13_lacks ml_X13_82 (by decide) (lmM (by decide)) (fun R => ⟨_, cel_699 tc ad R⟩) rfl rfl rfl (Nat.le_of_ble_eq_true rfl) ⟨Nat.le_of_ble_eq_true rfl, Nat.le_of_ble_eq_true rfl⟩ ⟨Nat.zero_le _, Nat.zero_le _⟩ dX13_willBeEaten_6 (fun r5 M4 h => ?_)
  obtain ⟨b6, h⟩ := h
  refine ra_if_eq (tgt := 14) E dX13_willBeEaten_9 (by decide) (fun q7 => ?_) (fun q7 => ?_)
  · replace h := h.1 q7
    refine ra_aload_n E dX13_willBeEaten_14 rfl 0 rfl ?_
    refine ra_sipush E dX13_willBeEaten_15 ks_200 ?_
    refine ra_callVV (rest := []) E (c_X13_foresee _ _ _ h) lq_13 cv_X13_foresee ml_X13_236 (by decide) (lmM (by decide)) (fun R => ⟨_, cel_699 tc ad R⟩) rfl rfl rfl (Nat.le_of_ble_eq_true rfl) ⟨Nat.le_of_ble_eq_true rfl, Nat.le_of_ble_eq_true rfl⟩ ⟨Nat.zero_le _, Nat.zero_le _⟩ dX13_willBeEaten_18 (fun M8 h => ?_)
    refine ra_aload_n E dX13_willBeEaten_21 rfl 0 rfl ?_
    refine ra_aload_n E dX13_willBeEaten_22 rfl 0 rfl ?_
    refine ra_iload_n E dX13_willBeEaten_23 rfl 1 rfl ?_
    refine ra_iconst E dX13_willBeEaten_24 ki_3 ?_
    refine ra_callIV (rest := [_]) E (c_X13_isIn _ _ _ _ h) lq_13 cv_X13_isIn ml_X13_116 (by decide) (lmM (by decide)) (fun R => ⟨_, cel_699 tc ad R⟩) rfl rfl rfl (Nat.le_of_ble_eq_true rfl) ⟨Nat.le_of_ble_eq_true rfl, Nat.le_of_ble_eq_true rfl⟩ ⟨Nat.zero_le _, Nat.zero_le _⟩ dX13_willBeEaten_25 (fun r10 M9 h => ?_)
    obtain ⟨b11, h⟩ := h
    refine ra_if_eq (tgt := 35) E dX13_willBeEaten_28 (by decide) (fun q12 => ?_) (fun q12 => ?_)
    · replace h := h.1 q12
      refine ra_iconst E dX13_willBeEaten_35 ki_0 ?_
      refine ra_callIV (rest := []) E (c_X13_laidBack _ _ _ h) lq_13 cv_X13_laidBack ml_X13_242 (by decide) (lmM (by decide)) (fun R => ⟨_, cel_699 tc ad R⟩) rfl rfl rfl (Nat.le_of_ble_eq_true rfl) ⟨Nat.le_of_ble_eq_true rfl, Nat.le_of_ble_eq_true rfl⟩ ⟨Nat.zero_le _, Nat.zero_le _⟩ dX13_willBeEaten_36 (fun r14 M13 h => ?_)
      refine ra_iconst E dX13_willBeEaten_39 ki_1 ?_
      refine ra_icmp_ne (tgt := 47) E dX13_willBeEaten_40 (by decide) (fun q15 => ?_) (fun q15 => ?_)
      · replace h := h.1 q15
        refine ra_iconst E dX13_willBeEaten_47 ki_0 ?_
        exact ra_zret E hr rfl dX13_willBeEaten_48 ⟨Or.inl rfl, h⟩
      · replace h := h.2 q15
        refine ra_iconst E dX13_willBeEaten_43 ki_1 ?_
        refine ra_goto (tgt := 48) E dX13_willBeEaten_44 (by decide) ?_
        exact ra_zret E hr rfl dX13_willBeEaten_48 ⟨Or.inr rfl, h⟩
    · replace h := h.2 q12
      refine ra_iconst E dX13_willBeEaten_31 ki_1 ?_
      refine ra_goto (tgt := 36) E dX13_willBeEaten_32 (by decide) ?_
      refine ra_callIV (rest := []) E (c_X13_laidBack _ _ _ h) lq_13 cv_X13_laidBack ml_X13_242 (by decide) (lmM (by decide)) (fun R => ⟨_, cel_699 tc ad R⟩) rfl rfl rfl (Nat.le_of_ble_eq_true rfl) ⟨Nat.le_of_ble_eq_true rfl, Nat.le_of_ble_eq_true rfl⟩ ⟨Nat.zero_le _, Nat.zero_le _⟩ dX13_willBeEaten_36 (fun r17 M16 h => ?_)
      refine ra_iconst E dX13_willBeEaten_39 ki_1 ?_
      refine ra_icmp_ne (tgt := 47) E dX13_willBeEaten_40 (by decide) (fun q18 => ?_) (fun q18 => ?_)
      · replace h := h.1 q18
        refine ra_iconst E dX13_willBeEaten_47 ki_0 ?_
        exact ra_zret E hr rfl dX13_willBeEaten_48 ⟨Or.inl rfl, h⟩
      · replace h := h.2 q18
        refine ra_iconst E dX13_willBeEaten_43 ki_1 ?_
        refine ra_goto (tgt := 48) E dX13_willBeEaten_44 (by decide) ?_
        exact ra_zret E hr rfl dX13_willBeEaten_48 ⟨Or.inr rfl, h⟩
  · replace h := h.2 q7
    refine ra_iconst E dX13_willBeEaten_12 ki_0 ?_
    exact ra_zret E hr rfl dX13_willBeEaten_13 ⟨Or.inl rfl, h⟩
def f_X13_coinsAfter (p1 : Int32) (M : TM) (K : Int32 → TM → Prop) : Prop := f_X13_inRange p1 (0 : Int32) (200 : Int32) M (fun r2 M1 => f_X13_lacks r2 M1 (fun r5 M4 => ((r5 = 0 → f_X13_foresee p1 M4 (fun M8 => vp_in (M8 699 6) 2 ∧ vp_in (4 : Int32) 377 ∧ f_X13_laidBack (M8 (700 + (M8 699 6).toNatClampNeg) (4 : Int32).toNatClampNeg) M8 (fun r12 M11 => K r12 M11))) ∧ (¬ r5 = 0 → K (0 : Int32) M4))))
set_option maxRecDepth 100000 in
set_option maxHeartbeats 4000000 in
theorem c_X13_coinsAfter {ad : Nat → Nat} (p1 : Int32) (M : TM) (K : Int32 → TM → Prop) (h : f_X13_coinsAfter p1 M K) : MI yX13_coinsAfter cX13_coinsAfter 2 (some .int) 9 ad [.ref (ad 699), .int p1] M K := by
  refine MI_of RX13 rfl (by decide +kernel) (Nat.le_of_ble_eq_true rfl) (fun p l e s m below meth c D tc E hr => ?_)
  unfold f_X13_coinsAfter at h
  refine ra_aload_n E dX13_coinsAfter_0 rfl 0 rfl ?_
  refine ra_iload_n E dX13_coinsAfter_1 rfl 1 rfl ?_
  refine ra_iconst E dX13_coinsAfter_2 ki_0 ?_
  refine ra_sipush E dX13_coinsAfter_3 ks_200 ?_
  refine ra_callIS (rest := [_]) E (c_X13_inRange _ _ _ _ _ h) lq_13 ct_X13_inRange ml_X13_97 (by decide) rfl rfl (Nat.le_of_ble_eq_true rfl) ⟨Nat.le_of_ble_eq_true rfl, Nat.le_of_ble_eq_true rfl⟩ ⟨Nat.zero_le _, Nat.zero_le _⟩ dX13_coinsAfter_6 (fun r2 M1 h => ?_)
  obtain ⟨b3, h⟩ := h
  refine ra_callIV (rest := []) E (c_X13_lacks _ _ _ h) lq_13 cv_X13_lacks ml_X13_82 (by decide) (lmM (by decide)) (fun R => ⟨_, cel_699 tc ad R⟩) rfl rfl rfl (Nat.le_of_ble_eq_true rfl) ⟨Nat.le_of_ble_eq_true rfl, Nat.le_of_ble_eq_true rfl⟩ ⟨Nat.zero_le _, Nat.zero_le _⟩ dX13_coinsAfter_9 (fun r5 M4 h => ?_)
  obtain ⟨b6, h⟩ := h
  refine ra_if_eq (tgt := 17) E dX13_coinsAfter_12 (by decide) (fun q7 => ?_) (fun q7 => ?_)
  · replace h := h.1 q7
    refine ra_aload_n E dX13_coinsAfter_17 rfl 0 rfl ?_
    refine ra_iload_n E dX13_coinsAfter_18 rfl 1 rfl ?_
    refine ra_callVV (rest := []) E (c_X13_foresee _ _ _ h) lq_13 cv_X13_foresee ml_X13_236 (by decide) (lmM (by decide)) (fun R => ⟨_, cel_699 tc ad R⟩) rfl rfl rfl (Nat.le_of_ble_eq_true rfl) ⟨Nat.le_of_ble_eq_true rfl, Nat.le_of_ble_eq_true rfl⟩ ⟨Nat.zero_le _, Nat.zero_le _⟩ dX13_coinsAfter_19 (fun M8 h => ?_)
    refine ra_aload_n E dX13_coinsAfter_22 rfl 0 rfl ?_
    refine ra_aload_n E dX13_coinsAfter_23 rfl 0 rfl ?_
    obtain ⟨g9, h⟩ := h
    refine gf_X13_6 E lm13 fl_X13_28 dX13_coinsAfter_24 ?_
    refine ra_iconst E dX13_coinsAfter_27 ki_4 ?_
    obtain ⟨g10, h⟩ := h
    refine ra_iald E (lmM (isRow_of g9).lt) (cel_row tc ad (isRow_of g9)) g10 dX13_coinsAfter_28 ?_
    refine ra_callIV (rest := []) E (c_X13_laidBack _ _ _ h) lq_13 cv_X13_laidBack ml_X13_242 (by decide) (lmM (by decide)) (fun R => ⟨_, cel_699 tc ad R⟩) rfl rfl rfl (Nat.le_of_ble_eq_true rfl) ⟨Nat.le_of_ble_eq_true rfl, Nat.le_of_ble_eq_true rfl⟩ ⟨Nat.zero_le _, Nat.zero_le _⟩ dX13_coinsAfter_29 (fun r12 M11 h => ?_)
    exact ra_iret E hr dX13_coinsAfter_32 h
  · replace h := h.2 q7
    refine ra_iconst E dX13_coinsAfter_15 ki_0 ?_
    exact ra_iret E hr dX13_coinsAfter_16 h
def f_X13_nearestBarge_L26 (p1 : Int32) (K : Int32 → TM → Prop) : Nat → Int32 → Int32 → Int32 → TM → Prop
  | 0, _, _, _, _ => False
  | n + 1, x2, x3, x4, M => vp_in (M 699 6) 2 ∧ vp_in (2 : Int32) 377 ∧ (((M (700 + (M 699 6).toNatClampNeg) (2 : Int32).toNatClampNeg) ≤ x4 → K x3 M) ∧ (¬ (M (700 + (M 699 6).toNatClampNeg) (2 : Int32).toNatClampNeg) ≤ x4 → f_X13_of x4 (0 : Int32) M (fun r14 M13 => f_X13_timeFor r14 x2 M13 (fun r16 M15 => f_X13_of x3 (0 : Int32) M15 (fun r18 M17 => f_X13_timeFor r18 x2 M17 (fun r20 M19 => ((r20 ≤ r16 → f_X13_nearestBarge_L26 p1 K n x2 x3 (x4 + 1) M19) ∧ (¬ r20 ≤ r16 → f_X13_nearestBarge_L26 p1 K n x2 x4 (x4 + 1) M19))))))))
set_option maxRecDepth 100000 in
set_option maxHeartbeats 4000000 in
theorem l_X13_nearestBarge_L26 {p : Program} {l : Launch} {e : Env} {s : State} {m : MethodId} {args : Array Value} {below : List Frame} {meth : Method} {c : Code} {D : va_G} {tc : Nat → ClassId} {ad : Nat → Nat} (p1 : Int32) {K : Int32 → TM → Prop} (E : Ev p s m args meth c D tc ad RX13 cX13_nearestBarge 5) (hr : meth.sig.returnType = (some .int)) : ∀ (n : Nat) (x2 : Int32) (x3 : Int32) (x4 : Int32) (M : TM) , f_X13_nearestBarge_L26 p1 K n x2 x3 x4 M → Wa p l e (rmD 2) s m args below meth c 0 0 (MQ below (va_Qi K (EndW D tc ad) (A0 ad s.heap.size)) args s 0 0 (A0 ad s.heap.size)) D tc ad 5 M 26 [(0, .ref (ad 699)), (2, .int x2), (3, .int x3), (4, .int x4)] [] := by
  intro n
  induction n with
  | zero => intro x2 x3 x4 M  h; exact h.elim
  | succ n ih =>
    intro x2 x3 x4 M  h
    unfold f_X13_nearestBarge_L26 at h
    refine ra_iload E dX13_nearestBarge_26 3 rfl ?_
    refine ra_aload_n E dX13_nearestBarge_28 rfl 0 rfl ?_
    obtain ⟨g10, h⟩ := h
    refine gf_X13_6 E lm13 fl_X13_28 dX13_nearestBarge_29 ?_
    refine ra_iconst E dX13_nearestBarge_32 ki_2 ?_
    obtain ⟨g11, h⟩ := h
    refine ra_iald E (lmM (isRow_of g10).lt) (cel_row tc ad (isRow_of g10)) g11 dX13_nearestBarge_33 ?_
    refine ra_icmp_ge (tgt := 76) E dX13_nearestBarge_34 (by decide) (fun q12 => ?_) (fun q12 => ?_)
    · replace h := h.1 q12
      refine ra_iload_n E dX13_nearestBarge_76 rfl 2 rfl ?_
      exact ra_iret E hr dX13_nearestBarge_77 h
    · replace h := h.2 q12
      refine ra_aload_n E dX13_nearestBarge_37 rfl 0 rfl ?_
      refine ra_aload_n E dX13_nearestBarge_38 rfl 0 rfl ?_
      refine ra_iload E dX13_nearestBarge_39 3 rfl ?_
      refine ra_iconst E dX13_nearestBarge_41 ki_0 ?_
      refine ra_callIV (rest := [_]) E (c_X13_of _ _ _ _ h) lq_13 cv_X13_of ml_X13_93 (by decide) (lmM (by decide)) (fun R => ⟨_, cel_699 tc ad R⟩) rfl rfl rfl (Nat.le_of_ble_eq_true rfl) ⟨Nat.le_of_ble_eq_true rfl, Nat.le_of_ble_eq_true rfl⟩ ⟨Nat.zero_le _, Nat.zero_le _⟩ dX13_nearestBarge_42 (fun r14 M13 h => ?_)
      refine ra_iload_n E dX13_nearestBarge_45 rfl 1 rfl ?_
      refine ra_callIV (rest := []) E (c_X13_timeFor _ _ _ _ h) lq_13 cv_X13_timeFor ml_X13_220 (by decide) (lmM (by decide)) (fun R => ⟨_, cel_699 tc ad R⟩) rfl rfl rfl (Nat.le_of_ble_eq_true rfl) ⟨Nat.le_of_ble_eq_true rfl, Nat.le_of_ble_eq_true rfl⟩ ⟨Nat.zero_le _, Nat.zero_le _⟩ dX13_nearestBarge_46 (fun r16 M15 h => ?_)
      refine ra_aload_n E dX13_nearestBarge_49 rfl 0 rfl ?_
      refine ra_aload_n E dX13_nearestBarge_50 rfl 0 rfl ?_
      refine ra_iload_n E dX13_nearestBarge_51 rfl 2 rfl ?_
      refine ra_iconst E dX13_nearestBarge_52 ki_0 ?_
      refine ra_callIV (rest := [_, _]) E (c_X13_of _ _ _ _ h) lq_13 cv_X13_of ml_X13_93 (by decide) (lmM (by decide)) (fun R => ⟨_, cel_699 tc ad R⟩) rfl rfl rfl (Nat.le_of_ble_eq_true rfl) ⟨Nat.le_of_ble_eq_true rfl, Nat.le_of_ble_eq_true rfl⟩ ⟨Nat.zero_le _, Nat.zero_le _⟩ dX13_nearestBarge_53 (fun r18 M17 h => ?_)
      refine ra_iload_n E dX13_nearestBarge_56 rfl 1 rfl ?_
      refine ra_callIV (rest := [_]) E (c_X13_timeFor _ _ _ _ h) lq_13 cv_X13_timeFor ml_X13_220 (by decide) (lmM (by decide)) (fun R => ⟨_, cel_699 tc ad R⟩) rfl rfl rfl (Nat.le_of_ble_eq_true rfl) ⟨Nat.le_of_ble_eq_true rfl, Nat.le_of_ble_eq_true rfl⟩ ⟨Nat.zero_le _, Nat.zero_le _⟩ dX13_nearestBarge_57 (fun r20 M19 h => ?_)
      refine ra_icmp_ge (tgt := 68) E dX13_nearestBarge_60 (by decide) (fun q21 => ?_) (fun q21 => ?_)
      · replace h := h.1 q21
        refine ra_iload_n E dX13_nearestBarge_68 rfl 2 rfl ?_
        refine ra_istore_n (L' := [(3, _), (0, _), (2, _), (4, _)]) E dX13_nearestBarge_69 rfl (by decide) rfl ?_
        refine ra_iinc1 (L' := [(4, _), (3, _), (0, _), (2, _)]) E dX13_nearestBarge_70 3 rfl (by decide) rfl ?_
        refine ra_goto (tgt := 26) E dX13_nearestBarge_73 (by decide) ?_
        exact ra_sub (L' := [(0, _), (2, _), (3, _), (4, _)]) [2, 3, 1, 0] rfl (ih _ _ _ _ h)
      · replace h := h.2 q21
        refine ra_iload E dX13_nearestBarge_63 3 rfl ?_
        refine ra_goto (tgt := 69) E dX13_nearestBarge_65 (by decide) ?_
        refine ra_istore_n (L' := [(3, _), (0, _), (2, _), (4, _)]) E dX13_nearestBarge_69 rfl (by decide) rfl ?_
        refine ra_iinc1 (L' := [(4, _), (3, _), (0, _), (2, _)]) E dX13_nearestBarge_70 3 rfl (by decide) rfl ?_
        refine ra_goto (tgt := 26) E dX13_nearestBarge_73 (by decide) ?_
        exact ra_sub (L' := [(0, _), (2, _), (3, _), (4, _)]) [2, 3, 1, 0] rfl (ih _ _ _ _ h)
def f_X13_nearestBarge (p1 : Int32) (M : TM) (K : Int32 → TM → Prop) : Prop := f_X13_isOrder p1 M (fun r2 M1 => f_X13_lacks r2 M1 (fun r5 M4 => ((r5 = 0 → f_X13_ofOrder p1 (0 : Int32) M4 (fun r9 M8 => ∃ n, f_X13_nearestBarge_L26 p1 K n r9 (0 : Int32) (1 : Int32) M8)) ∧ (¬ r5 = 0 → K (0 : Int32) M4))))
set_option maxRecDepth 100000 in
set_option maxHeartbeats 4000000 in
theorem c_X13_nearestBarge {ad : Nat → Nat} (p1 : Int32) (M : TM) (K : Int32 → TM → Prop) (h : f_X13_nearestBarge p1 M K) : MI yX13_nearestBarge cX13_nearestBarge 5 (some .int) 2 ad [.ref (ad 699), .int p1] M K := by
  refine MI_of RX13 rfl (by decide +kernel) (Nat.le_of_ble_eq_true rfl) (fun p l e s m below meth c D tc E hr => ?_)
  unfold f_X13_nearestBarge at h
  refine ra_aload_n E dX13_nearestBarge_0 rfl 0 rfl ?_
  refine ra_aload_n E dX13_nearestBarge_1 rfl 0 rfl ?_
  refine ra_iload_n E dX13_nearestBarge_2 rfl 1 rfl ?_
  refine ra_callIV (rest := [_]) E (c_X13_isOrder _ _ _ h) lq_13 cv_X13_isOrder ml_X13_152 (by decide) (lmM (by decide)) (fun R => ⟨_, cel_699 tc ad R⟩) rfl rfl rfl (Nat.le_of_ble_eq_true rfl) ⟨Nat.le_of_ble_eq_true rfl, Nat.le_of_ble_eq_true rfl⟩ ⟨Nat.zero_le _, Nat.zero_le _⟩ dX13_nearestBarge_3 (fun r2 M1 h => ?_)
  obtain ⟨b3, h⟩ := h
  refine ra_callIV (rest := []) E (c_X13_lacks _ _ _ h) lq_13 cv_X13_lacks ml_X13_82 (by decide) (lmM (by decide)) (fun R => ⟨_, cel_699 tc ad R⟩) rfl rfl rfl (Nat.le_of_ble_eq_true rfl) ⟨Nat.le_of_ble_eq_true rfl, Nat.le_of_ble_eq_true rfl⟩ ⟨Nat.zero_le _, Nat.zero_le _⟩ dX13_nearestBarge_6 (fun r5 M4 h => ?_)
  obtain ⟨b6, h⟩ := h
  refine ra_if_eq (tgt := 14) E dX13_nearestBarge_9 (by decide) (fun q7 => ?_) (fun q7 => ?_)
  · replace h := h.1 q7
    refine ra_aload_n E dX13_nearestBarge_14 rfl 0 rfl ?_
    refine ra_iload_n E dX13_nearestBarge_15 rfl 1 rfl ?_
    refine ra_iconst E dX13_nearestBarge_16 ki_0 ?_
    refine ra_callIV (rest := []) E (c_X13_ofOrder _ _ _ _ h) lq_13 cv_X13_ofOrder ml_X13_101 (by decide) (lmM (by decide)) (fun R => ⟨_, cel_699 tc ad R⟩) rfl rfl rfl (Nat.le_of_ble_eq_true rfl) ⟨Nat.le_of_ble_eq_true rfl, Nat.le_of_ble_eq_true rfl⟩ ⟨Nat.zero_le _, Nat.zero_le _⟩ dX13_nearestBarge_17 (fun r9 M8 h => ?_)
    refine ra_istore_n (L' := [(2, _), (0, _), (1, _)]) E dX13_nearestBarge_20 rfl (by decide) rfl ?_
    refine ra_iconst E dX13_nearestBarge_21 ki_0 ?_
    refine ra_istore_n (L' := [(3, _), (2, _), (0, _), (1, _)]) E dX13_nearestBarge_22 rfl (by decide) rfl ?_
    refine ra_iconst E dX13_nearestBarge_23 ki_1 ?_
    refine ra_istore (L' := [(4, _), (3, _), (2, _), (0, _), (1, _)]) E dX13_nearestBarge_24 (by decide) rfl ?_
    obtain ⟨n22, h⟩ := h
    exact ra_sub (L' := [(0, _), (2, _), (3, _), (4, _)]) [3, 2, 1, 0] rfl (l_X13_nearestBarge_L26 p1 E hr n22 _ _ _ _ h)
  · replace h := h.2 q7
    refine ra_iconst E dX13_nearestBarge_12 ki_0 ?_
    exact ra_iret E hr dX13_nearestBarge_13 h
def f_X13_doSail (p1 : Int32) (p2 : Int32) (M : TM) (K : Int32 → TM → Prop) : Prop := f_X13_isBarge p1 M (fun r2 M1 => ((r2 = 0 → K (1 : Int32) M1) ∧ (¬ r2 = 0 → f_X13_isPlace p2 M1 (fun r6 M5 => ((¬ r6 = 0 → f_X13_whyNotSail p1 p2 M5 (fun r10 M9 => ((r10 = 0 → f_X13_lay p1 (1 : Int32) p2 M9 (fun M12 => f_X13_of p1 (0 : Int32) M12 (fun r14 M13 => f_X13_timeFor r14 p2 M13 (fun r16 M15 => ∀ M17, M17 = u2 M15 699 10 r16 → K (0 : Int32) M17)))) ∧ (¬ r10 = 0 → K (2 : Int32) M9)))) ∧ (r6 = 0 → K (1 : Int32) M5))))))
set_option maxRecDepth 100000 in
set_option maxHeartbeats 4000000 in
theorem c_X13_doSail {ad : Nat → Nat} (p1 : Int32) (p2 : Int32) (M : TM) (K : Int32 → TM → Prop) (h : f_X13_doSail p1 p2 M K) : MI yX13_doSail cX13_doSail 3 (some .int) 3 ad [.ref (ad 699), .int p1, .int p2] M K := by
  refine MI_of RX13 rfl (by decide +kernel) (Nat.le_of_ble_eq_true rfl) (fun p l e s m below meth c D tc E hr => ?_)
  unfold f_X13_doSail at h
  refine ra_aload_n E dX13_doSail_0 rfl 0 rfl ?_
  refine ra_iload_n E dX13_doSail_1 rfl 1 rfl ?_
  refine ra_callIV (rest := []) E (c_X13_isBarge _ _ _ h) lq_13 cv_X13_isBarge ml_X13_140 (by decide) (lmM (by decide)) (fun R => ⟨_, cel_699 tc ad R⟩) rfl rfl rfl (Nat.le_of_ble_eq_true rfl) ⟨Nat.le_of_ble_eq_true rfl, Nat.le_of_ble_eq_true rfl⟩ ⟨Nat.zero_le _, Nat.zero_le _⟩ dX13_doSail_2 (fun r2 M1 h => ?_)
  obtain ⟨b3, h⟩ := h
  refine ra_if_eq (tgt := 16) E dX13_doSail_5 (by decide) (fun q4 => ?_) (fun q4 => ?_)
  · replace h := h.1 q4
    refine ra_iconst E dX13_doSail_16 ki_1 ?_
    exact ra_iret E hr dX13_doSail_17 h
  · replace h := h.2 q4
    refine ra_aload_n E dX13_doSail_8 rfl 0 rfl ?_
    refine ra_iload_n E dX13_doSail_9 rfl 2 rfl ?_
    refine ra_callIV (rest := []) E (c_X13_isPlace _ _ _ h) lq_13 cv_X13_isPlace ml_X13_131 (by decide) (lmM (by decide)) (fun R => ⟨_, cel_699 tc ad R⟩) rfl rfl rfl (Nat.le_of_ble_eq_true rfl) ⟨Nat.le_of_ble_eq_true rfl, Nat.le_of_ble_eq_true rfl⟩ ⟨Nat.zero_le _, Nat.zero_le _⟩ dX13_doSail_10 (fun r6 M5 h => ?_)
    obtain ⟨b7, h⟩ := h
    refine ra_if_ne (tgt := 18) E dX13_doSail_13 (by decide) (fun q8 => ?_) (fun q8 => ?_)
    · replace h := h.1 q8
      refine ra_aload_n E dX13_doSail_18 rfl 0 rfl ?_
      refine ra_iload_n E dX13_doSail_19 rfl 1 rfl ?_
      refine ra_iload_n E dX13_doSail_20 rfl 2 rfl ?_
      refine ra_callIV (rest := []) E (c_X13_whyNotSail _ _ _ _ h) lq_13 cv_X13_whyNotSail ml_X13_217 (by decide) (lmM (by decide)) (fun R => ⟨_, cel_699 tc ad R⟩) rfl rfl rfl (Nat.le_of_ble_eq_true rfl) ⟨Nat.le_of_ble_eq_true rfl, Nat.le_of_ble_eq_true rfl⟩ ⟨Nat.zero_le _, Nat.zero_le _⟩ dX13_doSail_21 (fun r10 M9 h => ?_)
      refine ra_if_eq (tgt := 29) E dX13_doSail_24 (by decide) (fun q11 => ?_) (fun q11 => ?_)
      · replace h := h.1 q11
        refine ra_aload_n E dX13_doSail_29 rfl 0 rfl ?_
        refine ra_iload_n E dX13_doSail_30 rfl 1 rfl ?_
        refine ra_iconst E dX13_doSail_31 ki_1 ?_
        refine ra_iload_n E dX13_doSail_32 rfl 2 rfl ?_
        refine ra_callVV (rest := []) E (c_X13_lay _ _ _ _ _ h) lq_13 cv_X13_lay ml_X13_86 (by decide) (lmM (by decide)) (fun R => ⟨_, cel_699 tc ad R⟩) rfl rfl rfl (Nat.le_of_ble_eq_true rfl) ⟨Nat.le_of_ble_eq_true rfl, Nat.le_of_ble_eq_true rfl⟩ ⟨Nat.zero_le _, Nat.zero_le _⟩ dX13_doSail_33 (fun M12 h => ?_)
        refine ra_aload_n E dX13_doSail_36 rfl 0 rfl ?_
        refine ra_aload_n E dX13_doSail_37 rfl 0 rfl ?_
        refine ra_aload_n E dX13_doSail_38 rfl 0 rfl ?_
        refine ra_iload_n E dX13_doSail_39 rfl 1 rfl ?_
        refine ra_iconst E dX13_doSail_40 ki_0 ?_
        refine ra_callIV (rest := [_, _]) E (c_X13_of _ _ _ _ h) lq_13 cv_X13_of ml_X13_93 (by decide) (lmM (by decide)) (fun R => ⟨_, cel_699 tc ad R⟩) rfl rfl rfl (Nat.le_of_ble_eq_true rfl) ⟨Nat.le_of_ble_eq_true rfl, Nat.le_of_ble_eq_true rfl⟩ ⟨Nat.zero_le _, Nat.zero_le _⟩ dX13_doSail_41 (fun r14 M13 h => ?_)
        refine ra_iload_n E dX13_doSail_44 rfl 2 rfl ?_
        refine ra_callIV (rest := [_]) E (c_X13_timeFor _ _ _ _ h) lq_13 cv_X13_timeFor ml_X13_220 (by decide) (lmM (by decide)) (fun R => ⟨_, cel_699 tc ad R⟩) rfl rfl rfl (Nat.le_of_ble_eq_true rfl) ⟨Nat.le_of_ble_eq_true rfl, Nat.le_of_ble_eq_true rfl⟩ ⟨Nat.zero_le _, Nat.zero_le _⟩ dX13_doSail_45 (fun r16 M15 h => ?_)
        refine pf_X13_10 E lm13 fl_X13_245 dX13_doSail_48 ?_
        replace h := h _ rfl
        refine ra_iconst E dX13_doSail_51 ki_0 ?_
        exact ra_iret E hr dX13_doSail_52 h
      · replace h := h.2 q11
        refine ra_iconst E dX13_doSail_27 ki_2 ?_
        exact ra_iret E hr dX13_doSail_28 h
    · replace h := h.2 q8
      refine ra_iconst E dX13_doSail_16 ki_1 ?_
      exact ra_iret E hr dX13_doSail_17 h
def f_X13_doTake (p1 : Int32) (p2 : Int32) (M : TM) (K : Int32 → TM → Prop) : Prop := f_X13_isBarge p1 M (fun r2 M1 => ((r2 = 0 → K (1 : Int32) M1) ∧ (¬ r2 = 0 → f_X13_isOrder p2 M1 (fun r6 M5 => ((¬ r6 = 0 → f_X13_isIn p2 (0 : Int32) M5 (fun r10 M9 => ((r10 = 0 → K (2 : Int32) M9) ∧ (¬ r10 = 0 → f_X13_countOf p1 (1 : Int32) M9 (fun r14 M13 => f_X13_countOf p1 (2 : Int32) M13 (fun r16 M15 => ((¬ (r14 + r16) = (4 : Int32) → f_X13_layOrder p2 (4 : Int32) (1 : Int32) M15 (fun M18 => f_X13_layOrder p2 (5 : Int32) p1 M18 (fun M19 => vp_in (M19 699 6) 2 ∧ vp_in (8 : Int32) 377 ∧ f_X13_layOrder p2 (8 : Int32) (M19 (700 + (M19 699 6).toNatClampNeg) (8 : Int32).toNatClampNeg) M19 (fun M22 => vp_in (M22 699 6) 2 ∧ vp_in (8 : Int32) 377 ∧ vp_in (8 : Int32) 377 ∧ ∀ M26, M26 = u2 M22 (700 + (M22 699 6).toNatClampNeg) (8 : Int32).toNatClampNeg ((M22 (700 + (M22 699 6).toNatClampNeg) (8 : Int32).toNatClampNeg) + (1 : Int32)) → f_X13_countOf p1 (1 : Int32) M26 (fun r28 M27 => ∀ M29, M29 = u2 M27 699 10 r28 → K (0 : Int32) M29))))) ∧ ((r14 + r16) = (4 : Int32) → K (2 : Int32) M15)))))))) ∧ (r6 = 0 → K (1 : Int32) M5))))))
set_option maxRecDepth 100000 in
set_option maxHeartbeats 4000000 in
theorem c_X13_doTake {ad : Nat → Nat} (p1 : Int32) (p2 : Int32) (M : TM) (K : Int32 → TM → Prop) (h : f_X13_doTake p1 p2 M K) : MI yX13_doTake cX13_doTake 3 (some .int) 4 ad [.ref (ad 699), .int p1, .int p2] M K := by
  refine MI_of RX13 rfl (by decide +kernel) (Nat.le_of_ble_eq_true rfl) (fun p l e s m below meth c D tc E hr => ?_)
  unfold f_X13_doTake at h
  refine ra_aload_n E dX13_doTake_0 rfl 0 rfl ?_
  refine ra_iload_n E dX13_doTake_1 rfl 1 rfl ?_
  refine ra_callIV (rest := []) E (c_X13_isBarge _ _ _ h) lq_13 cv_X13_isBarge ml_X13_140 (by decide) (lmM (by decide)) (fun R => ⟨_, cel_699 tc ad R⟩) rfl rfl rfl (Nat.le_of_ble_eq_true rfl) ⟨Nat.le_of_ble_eq_true rfl, Nat.le_of_ble_eq_true rfl⟩ ⟨Nat.zero_le _, Nat.zero_le _⟩ dX13_doTake_2 (fun r2 M1 h => ?_)
  obtain ⟨b3, h⟩ := h
  refine ra_if_eq (tgt := 16) E dX13_doTake_5 (by decide) (fun q4 => ?_) (fun q4 => ?_)
  · replace h := h.1 q4
    refine ra_iconst E dX13_doTake_16 ki_1 ?_
    exact ra_iret E hr dX13_doTake_17 h
  · replace h := h.2 q4
    refine ra_aload_n E dX13_doTake_8 rfl 0 rfl ?_
    refine ra_iload_n E dX13_doTake_9 rfl 2 rfl ?_
    refine ra_callIV (rest := []) E (c_X13_isOrder _ _ _ h) lq_13 cv_X13_isOrder ml_X13_152 (by decide) (lmM (by decide)) (fun R => ⟨_, cel_699 tc ad R⟩) rfl rfl rfl (Nat.le_of_ble_eq_true rfl) ⟨Nat.le_of_ble_eq_true rfl, Nat.le_of_ble_eq_true rfl⟩ ⟨Nat.zero_le _, Nat.zero_le _⟩ dX13_doTake_10 (fun r6 M5 h => ?_)
    obtain ⟨b7, h⟩ := h
    refine ra_if_ne (tgt := 18) E dX13_doTake_13 (by decide) (fun q8 => ?_) (fun q8 => ?_)
    · replace h := h.1 q8
      refine ra_aload_n E dX13_doTake_18 rfl 0 rfl ?_
      refine ra_iload_n E dX13_doTake_19 rfl 2 rfl ?_
      refine ra_iconst E dX13_doTake_20 ki_0 ?_
      refine ra_callIV (rest := []) E (c_X13_isIn _ _ _ _ h) lq_13 cv_X13_isIn ml_X13_116 (by decide) (lmM (by decide)) (fun R => ⟨_, cel_699 tc ad R⟩) rfl rfl rfl (Nat.le_of_ble_eq_true rfl) ⟨Nat.le_of_ble_eq_true rfl, Nat.le_of_ble_eq_true rfl⟩ ⟨Nat.zero_le _, Nat.zero_le _⟩ dX13_doTake_21 (fun r10 M9 h => ?_)
      obtain ⟨b11, h⟩ := h
      refine ra_if_eq (tgt := 44) E dX13_doTake_24 (by decide) (fun q12 => ?_) (fun q12 => ?_)
      · replace h := h.1 q12
        refine ra_iconst E dX13_doTake_44 ki_2 ?_
        exact ra_iret E hr dX13_doTake_45 h
      · replace h := h.2 q12
        refine ra_aload_n E dX13_doTake_27 rfl 0 rfl ?_
        refine ra_iload_n E dX13_doTake_28 rfl 1 rfl ?_
        refine ra_iconst E dX13_doTake_29 ki_1 ?_
        refine ra_callIV (rest := []) E (c_X13_countOf _ _ _ _ h) lq_13 cv_X13_countOf ml_X13_146 (by decide) (lmM (by decide)) (fun R => ⟨_, cel_699 tc ad R⟩) rfl rfl rfl (Nat.le_of_ble_eq_true rfl) ⟨Nat.le_of_ble_eq_true rfl, Nat.le_of_ble_eq_true rfl⟩ ⟨Nat.zero_le _, Nat.zero_le _⟩ dX13_doTake_30 (fun r14 M13 h => ?_)
        refine ra_aload_n E dX13_doTake_33 rfl 0 rfl ?_
        refine ra_iload_n E dX13_doTake_34 rfl 1 rfl ?_
        refine ra_iconst E dX13_doTake_35 ki_2 ?_
        refine ra_callIV (rest := [_]) E (c_X13_countOf _ _ _ _ h) lq_13 cv_X13_countOf ml_X13_146 (by decide) (lmM (by decide)) (fun R => ⟨_, cel_699 tc ad R⟩) rfl rfl rfl (Nat.le_of_ble_eq_true rfl) ⟨Nat.le_of_ble_eq_true rfl, Nat.le_of_ble_eq_true rfl⟩ ⟨Nat.zero_le _, Nat.zero_le _⟩ dX13_doTake_36 (fun r16 M15 h => ?_)
        refine ra_iadd E dX13_doTake_39 ?_
        refine ra_iconst E dX13_doTake_40 ki_4 ?_
        refine ra_icmp_ne (tgt := 46) E dX13_doTake_41 (by decide) (fun q17 => ?_) (fun q17 => ?_)
        · replace h := h.1 q17
          refine ra_aload_n E dX13_doTake_46 rfl 0 rfl ?_
          refine ra_iload_n E dX13_doTake_47 rfl 2 rfl ?_
          refine ra_iconst E dX13_doTake_48 ki_4 ?_
          refine ra_iconst E dX13_doTake_49 ki_1 ?_
          refine ra_callVV (rest := []) E (c_X13_layOrder _ _ _ _ _ h) lq_13 cv_X13_layOrder ml_X13_90 (by decide) (lmM (by decide)) (fun R => ⟨_, cel_699 tc ad R⟩) rfl rfl rfl (Nat.le_of_ble_eq_true rfl) ⟨Nat.le_of_ble_eq_true rfl, Nat.le_of_ble_eq_true rfl⟩ ⟨Nat.zero_le _, Nat.zero_le _⟩ dX13_doTake_50 (fun M18 h => ?_)
          refine ra_aload_n E dX13_doTake_53 rfl 0 rfl ?_
          refine ra_iload_n E dX13_doTake_54 rfl 2 rfl ?_
          refine ra_iconst E dX13_doTake_55 ki_5 ?_
          refine ra_iload_n E dX13_doTake_56 rfl 1 rfl ?_
          refine ra_callVV (rest := []) E (c_X13_layOrder _ _ _ _ _ h) lq_13 cv_X13_layOrder ml_X13_90 (by decide) (lmM (by decide)) (fun R => ⟨_, cel_699 tc ad R⟩) rfl rfl rfl (Nat.le_of_ble_eq_true rfl) ⟨Nat.le_of_ble_eq_true rfl, Nat.le_of_ble_eq_true rfl⟩ ⟨Nat.zero_le _, Nat.zero_le _⟩ dX13_doTake_57 (fun M19 h => ?_)
          refine ra_aload_n E dX13_doTake_60 rfl 0 rfl ?_
          refine ra_iload_n E dX13_doTake_61 rfl 2 rfl ?_
          refine ra_bipush E dX13_doTake_62 kb_8 ?_
          refine ra_aload_n E dX13_doTake_64 rfl 0 rfl ?_
          obtain ⟨g20, h⟩ := h
          refine gf_X13_6 E lm13 fl_X13_28 dX13_doTake_65 ?_
          refine ra_bipush E dX13_doTake_68 kb_8 ?_
          obtain ⟨g21, h⟩ := h
          refine ra_iald E (lmM (isRow_of g20).lt) (cel_row tc ad (isRow_of g20)) g21 dX13_doTake_70 ?_
          refine ra_callVV (rest := []) E (c_X13_layOrder _ _ _ _ _ h) lq_13 cv_X13_layOrder ml_X13_90 (by decide) (lmM (by decide)) (fun R => ⟨_, cel_699 tc ad R⟩) rfl rfl rfl (Nat.le_of_ble_eq_true rfl) ⟨Nat.le_of_ble_eq_true rfl, Nat.le_of_ble_eq_true rfl⟩ ⟨Nat.zero_le _, Nat.zero_le _⟩ dX13_doTake_71 (fun M22 h => ?_)
          refine ra_aload_n E dX13_doTake_74 rfl 0 rfl ?_
          obtain ⟨g23, h⟩ := h
          refine gf_X13_6 E lm13 fl_X13_28 dX13_doTake_75 ?_
          refine ra_bipush E dX13_doTake_78 kb_8 ?_
          refine ra_dup2 E dX13_doTake_80 rfl rfl ?_
          obtain ⟨g24, h⟩ := h
          refine ra_iald E (lmM (isRow_of g23).lt) (cel_row tc ad (isRow_of g23)) g24 dX13_doTake_81 ?_
          refine ra_iconst E dX13_doTake_82 ki_1 ?_
          refine ra_iadd E dX13_doTake_83 ?_
          obtain ⟨g25, h⟩ := h
          refine ra_iast E (lmM (isRow_of g23).lt) (cel_row tc ad (isRow_of g23)) g25 dX13_doTake_84 ?_
          replace h := h _ rfl
          refine ra_aload_n E dX13_doTake_85 rfl 0 rfl ?_
          refine ra_aload_n E dX13_doTake_86 rfl 0 rfl ?_
          refine ra_iload_n E dX13_doTake_87 rfl 1 rfl ?_
          refine ra_iconst E dX13_doTake_88 ki_1 ?_
          refine ra_callIV (rest := [_]) E (c_X13_countOf _ _ _ _ h) lq_13 cv_X13_countOf ml_X13_146 (by decide) (lmM (by decide)) (fun R => ⟨_, cel_699 tc ad R⟩) rfl rfl rfl (Nat.le_of_ble_eq_true rfl) ⟨Nat.le_of_ble_eq_true rfl, Nat.le_of_ble_eq_true rfl⟩ ⟨Nat.zero_le _, Nat.zero_le _⟩ dX13_doTake_89 (fun r28 M27 h => ?_)
          refine pf_X13_10 E lm13 fl_X13_245 dX13_doTake_92 ?_
          replace h := h _ rfl
          refine ra_iconst E dX13_doTake_95 ki_0 ?_
          exact ra_iret E hr dX13_doTake_96 h
        · replace h := h.2 q17
          refine ra_iconst E dX13_doTake_44 ki_2 ?_
          exact ra_iret E hr dX13_doTake_45 h
    · replace h := h.2 q8
      refine ra_iconst E dX13_doTake_16 ki_1 ?_
      exact ra_iret E hr dX13_doTake_17 h
def f_X13_doDrop_L30 (p1 : Int32) (K : Int32 → TM → Prop) (x1 : Int32) (M : TM) : Prop := f_X13_ofOrder x1 (5 : Int32) M (fun r10 M9 => ∀ M11, M11 = u2 M9 699 10 r10 → f_X13_layOrder x1 (4 : Int32) (0 : Int32) M11 (fun M12 => f_X13_layOrder x1 (5 : Int32) (-1 : Int32) M12 (fun M13 => f_X13_layOrder x1 (6 : Int32) (0 : Int32) M13 (fun M14 => f_X13_ofOrder x1 (2 : Int32) M14 (fun r16 M15 => f_X13_layOrder x1 (7 : Int32) r16 M15 (fun M17 => K (0 : Int32) M17))))))
set_option maxRecDepth 100000 in
set_option maxHeartbeats 4000000 in
theorem l_X13_doDrop_L30 {p : Program} {l : Launch} {e : Env} {s : State} {m : MethodId} {args : Array Value} {below : List Frame} {meth : Method} {c : Code} {D : va_G} {tc : Nat → ClassId} {ad : Nat → Nat} (p1 : Int32) {K : Int32 → TM → Prop} (E : Ev p s m args meth c D tc ad RX13 cX13_doDrop 2) (hr : meth.sig.returnType = (some .int)) : ∀ (x1 : Int32) (M : TM) , f_X13_doDrop_L30 p1 K x1 M → Wa p l e (rmD 2) s m args below meth c 0 0 (MQ below (va_Qi K (EndW D tc ad) (A0 ad s.heap.size)) args s 0 0 (A0 ad s.heap.size)) D tc ad 2 M 30 [(0, .ref (ad 699)), (1, .int x1)] [] := by
  intro x1 M  h
  unfold f_X13_doDrop_L30 at h
  refine ra_aload_n E dX13_doDrop_30 rfl 0 rfl ?_
  refine ra_aload_n E dX13_doDrop_31 rfl 0 rfl ?_
  refine ra_iload_n E dX13_doDrop_32 rfl 1 rfl ?_
  refine ra_iconst E dX13_doDrop_33 ki_5 ?_
  refine ra_callIV (rest := [_]) E (c_X13_ofOrder _ _ _ _ h) lq_13 cv_X13_ofOrder ml_X13_101 (by decide) (lmM (by decide)) (fun R => ⟨_, cel_699 tc ad R⟩) rfl rfl rfl (Nat.le_of_ble_eq_true rfl) ⟨Nat.le_of_ble_eq_true rfl, Nat.le_of_ble_eq_true rfl⟩ ⟨Nat.zero_le _, Nat.zero_le _⟩ dX13_doDrop_34 (fun r10 M9 h => ?_)
  refine pf_X13_10 E lm13 fl_X13_245 dX13_doDrop_37 ?_
  replace h := h _ rfl
  refine ra_aload_n E dX13_doDrop_40 rfl 0 rfl ?_
  refine ra_iload_n E dX13_doDrop_41 rfl 1 rfl ?_
  refine ra_iconst E dX13_doDrop_42 ki_4 ?_
  refine ra_iconst E dX13_doDrop_43 ki_0 ?_
  refine ra_callVV (rest := []) E (c_X13_layOrder _ _ _ _ _ h) lq_13 cv_X13_layOrder ml_X13_90 (by decide) (lmM (by decide)) (fun R => ⟨_, cel_699 tc ad R⟩) rfl rfl rfl (Nat.le_of_ble_eq_true rfl) ⟨Nat.le_of_ble_eq_true rfl, Nat.le_of_ble_eq_true rfl⟩ ⟨Nat.zero_le _, Nat.zero_le _⟩ dX13_doDrop_44 (fun M12 h => ?_)
  refine ra_aload_n E dX13_doDrop_47 rfl 0 rfl ?_
  refine ra_iload_n E dX13_doDrop_48 rfl 1 rfl ?_
  refine ra_iconst E dX13_doDrop_49 ki_5 ?_
  refine ra_iconst E dX13_doDrop_50 ki_m1 ?_
  refine ra_callVV (rest := []) E (c_X13_layOrder _ _ _ _ _ h) lq_13 cv_X13_layOrder ml_X13_90 (by decide) (lmM (by decide)) (fun R => ⟨_, cel_699 tc ad R⟩) rfl rfl rfl (Nat.le_of_ble_eq_true rfl) ⟨Nat.le_of_ble_eq_true rfl, Nat.le_of_ble_eq_true rfl⟩ ⟨Nat.zero_le _, Nat.zero_le _⟩ dX13_doDrop_51 (fun M13 h => ?_)
  refine ra_aload_n E dX13_doDrop_54 rfl 0 rfl ?_
  refine ra_iload_n E dX13_doDrop_55 rfl 1 rfl ?_
  refine ra_bipush E dX13_doDrop_56 kb_6 ?_
  refine ra_iconst E dX13_doDrop_58 ki_0 ?_
  refine ra_callVV (rest := []) E (c_X13_layOrder _ _ _ _ _ h) lq_13 cv_X13_layOrder ml_X13_90 (by decide) (lmM (by decide)) (fun R => ⟨_, cel_699 tc ad R⟩) rfl rfl rfl (Nat.le_of_ble_eq_true rfl) ⟨Nat.le_of_ble_eq_true rfl, Nat.le_of_ble_eq_true rfl⟩ ⟨Nat.zero_le _, Nat.zero_le _⟩ dX13_doDrop_59 (fun M14 h => ?_)
  refine ra_aload_n E dX13_doDrop_62 rfl 0 rfl ?_
  refine ra_iload_n E dX13_doDrop_63 rfl 1 rfl ?_
  refine ra_bipush E dX13_doDrop_64 kb_7 ?_
  refine ra_aload_n E dX13_doDrop_66 rfl 0 rfl ?_
  refine ra_iload_n E dX13_doDrop_67 rfl 1 rfl ?_
  refine ra_iconst E dX13_doDrop_68 ki_2 ?_
  refine ra_callIV (rest := [_, _, _]) E (c_X13_ofOrder _ _ _ _ h) lq_13 cv_X13_ofOrder ml_X13_101 (by decide) (lmM (by decide)) (fun R => ⟨_, cel_699 tc ad R⟩) rfl rfl rfl (Nat.le_of_ble_eq_true rfl) ⟨Nat.le_of_ble_eq_true rfl, Nat.le_of_ble_eq_true rfl⟩ ⟨Nat.zero_le _, Nat.zero_le _⟩ dX13_doDrop_69 (fun r16 M15 h => ?_)
  refine ra_callVV (rest := []) E (c_X13_layOrder _ _ _ _ _ h) lq_13 cv_X13_layOrder ml_X13_90 (by decide) (lmM (by decide)) (fun R => ⟨_, cel_699 tc ad R⟩) rfl rfl rfl (Nat.le_of_ble_eq_true rfl) ⟨Nat.le_of_ble_eq_true rfl, Nat.le_of_ble_eq_true rfl⟩ ⟨Nat.zero_le _, Nat.zero_le _⟩ dX13_doDrop_72 (fun M17 h => ?_)
  refine ra_iconst E dX13_doDrop_75 ki_0 ?_
  exact ra_iret E hr dX13_doDrop_76 h
def f_X13_doDrop (p1 : Int32) (M : TM) (K : Int32 → TM → Prop) : Prop := f_X13_isOrder p1 M (fun r2 M1 => ((¬ r2 = 0 → f_X13_isIn p1 (1 : Int32) M1 (fun r6 M5 => ((¬ r6 = 0 → f_X13_doDrop_L30 p1 K p1 M5) ∧ (r6 = 0 → f_X13_isIn p1 (2 : Int32) M5 (fun r19 M18 => ((¬ r19 = 0 → f_X13_doDrop_L30 p1 K p1 M18) ∧ (r19 = 0 → K (2 : Int32) M18))))))) ∧ (r2 = 0 → K (1 : Int32) M1)))
set_option maxRecDepth 100000 in
set_option maxHeartbeats 4000000 in
theorem c_X13_doDrop {ad : Nat → Nat} (p1 : Int32) (M : TM) (K : Int32 → TM → Prop) (h : f_X13_doDrop p1 M K) : MI yX13_doDrop cX13_doDrop 2 (some .int) 2 ad [.ref (ad 699), .int p1] M K := by
  refine MI_of RX13 rfl (by decide +kernel) (Nat.le_of_ble_eq_true rfl) (fun p l e s m below meth c D tc E hr => ?_)
  unfold f_X13_doDrop at h
  refine ra_aload_n E dX13_doDrop_0 rfl 0 rfl ?_
  refine ra_iload_n E dX13_doDrop_1 rfl 1 rfl ?_
  refine ra_callIV (rest := []) E (c_X13_isOrder _ _ _ h) lq_13 cv_X13_isOrder ml_X13_152 (by decide) (lmM (by decide)) (fun R => ⟨_, cel_699 tc ad R⟩) rfl rfl rfl (Nat.le_of_ble_eq_true rfl) ⟨Nat.le_of_ble_eq_true rfl, Nat.le_of_ble_eq_true rfl⟩ ⟨Nat.zero_le _, Nat.zero_le _⟩ dX13_doDrop_2 (fun r2 M1 h => ?_)
  obtain ⟨b3, h⟩ := h
  refine ra_if_ne (tgt := 10) E dX13_doDrop_5 (by decide) (fun q4 => ?_) (fun q4 => ?_)
  · replace h := h.1 q4
    refine ra_aload_n E dX13_doDrop_10 rfl 0 rfl ?_
    refine ra_iload_n E dX13_doDrop_11 rfl 1 rfl ?_
    refine ra_iconst E dX13_doDrop_12 ki_1 ?_
    refine ra_callIV (rest := []) E (c_X13_isIn _ _ _ _ h) lq_13 cv_X13_isIn ml_X13_116 (by decide) (lmM (by decide)) (fun R => ⟨_, cel_699 tc ad R⟩) rfl rfl rfl (Nat.le_of_ble_eq_true rfl) ⟨Nat.le_of_ble_eq_true rfl, Nat.le_of_ble_eq_true rfl⟩ ⟨Nat.zero_le _, Nat.zero_le _⟩ dX13_doDrop_13 (fun r6 M5 h => ?_)
    obtain ⟨b7, h⟩ := h
    refine ra_if_ne (tgt := 30) E dX13_doDrop_16 (by decide) (fun q8 => ?_) (fun q8 => ?_)
    · replace h := h.1 q8
      exact ra_sub (L' := [(0, _), (1, _)]) [0, 1] rfl (l_X13_doDrop_L30 p1 E hr _ _ h)
    · replace h := h.2 q8
      refine ra_aload_n E dX13_doDrop_19 rfl 0 rfl ?_
      refine ra_iload_n E dX13_doDrop_20 rfl 1 rfl ?_
      refine ra_iconst E dX13_doDrop_21 ki_2 ?_
      refine ra_callIV (rest := []) E (c_X13_isIn _ _ _ _ h) lq_13 cv_X13_isIn ml_X13_116 (by decide) (lmM (by decide)) (fun R => ⟨_, cel_699 tc ad R⟩) rfl rfl rfl (Nat.le_of_ble_eq_true rfl) ⟨Nat.le_of_ble_eq_true rfl, Nat.le_of_ble_eq_true rfl⟩ ⟨Nat.zero_le _, Nat.zero_le _⟩ dX13_doDrop_22 (fun r19 M18 h => ?_)
      obtain ⟨b20, h⟩ := h
      refine ra_if_ne (tgt := 30) E dX13_doDrop_25 (by decide) (fun q21 => ?_) (fun q21 => ?_)
      · replace h := h.1 q21
        exact ra_sub (L' := [(0, _), (1, _)]) [0, 1] rfl (l_X13_doDrop_L30 p1 E hr _ _ h)
      · replace h := h.2 q21
        refine ra_iconst E dX13_doDrop_28 ki_2 ?_
        exact ra_iret E hr dX13_doDrop_29 h
  · replace h := h.2 q4
    refine ra_iconst E dX13_doDrop_8 ki_1 ?_
    exact ra_iret E hr dX13_doDrop_9 h
def f_X13_doFlour (p1 : Int32) (p2 : Int32) (M : TM) (K : Int32 → TM → Prop) : Prop := f_X13_isBarge p1 M (fun r2 M1 => ((¬ r2 = 0 → f_X13_isFree p1 (0 : Int32) M1 (fun r6 M5 => ((r6 = 0 → K (3 : Int32) M5) ∧ (¬ r6 = 0 → f_X13_of p1 (3 : Int32) M5 (fun r10 M9 => (((r10 + p2) ≤ (99 : Int32) → f_X13_add p1 (3 : Int32) p2 M9 (fun M12 => vp_in (M12 699 6) 2 ∧ vp_in (4 : Int32) 377 ∧ vp_in (4 : Int32) 377 ∧ ∀ M16, M16 = u2 M12 (700 + (M12 699 6).toNatClampNeg) (4 : Int32).toNatClampNeg ((M12 (700 + (M12 699 6).toNatClampNeg) (4 : Int32).toNatClampNeg) - p2) → f_X13_of p1 (3 : Int32) M16 (fun r18 M17 => ∀ M19, M19 = u2 M17 699 10 r18 → K (0 : Int32) M19))) ∧ (¬ (r10 + p2) ≤ (99 : Int32) → K (3 : Int32) M9))))))) ∧ (r2 = 0 → K (1 : Int32) M1)))
set_option maxRecDepth 100000 in
set_option maxHeartbeats 4000000 in
theorem c_X13_doFlour {ad : Nat → Nat} (p1 : Int32) (p2 : Int32) (M : TM) (K : Int32 → TM → Prop) (h : f_X13_doFlour p1 p2 M K) : MI yX13_doFlour cX13_doFlour 3 (some .int) 3 ad [.ref (ad 699), .int p1, .int p2] M K := by
  refine MI_of RX13 rfl (by decide +kernel) (Nat.le_of_ble_eq_true rfl) (fun p l e s m below meth c D tc E hr => ?_)
  unfold f_X13_doFlour at h
  refine ra_aload_n E dX13_doFlour_0 rfl 0 rfl ?_
  refine ra_iload_n E dX13_doFlour_1 rfl 1 rfl ?_
  refine ra_callIV (rest := []) E (c_X13_isBarge _ _ _ h) lq_13 cv_X13_isBarge ml_X13_140 (by decide) (lmM (by decide)) (fun R => ⟨_, cel_699 tc ad R⟩) rfl rfl rfl (Nat.le_of_ble_eq_true rfl) ⟨Nat.le_of_ble_eq_true rfl, Nat.le_of_ble_eq_true rfl⟩ ⟨Nat.zero_le _, Nat.zero_le _⟩ dX13_doFlour_2 (fun r2 M1 h => ?_)
  obtain ⟨b3, h⟩ := h
  refine ra_if_ne (tgt := 10) E dX13_doFlour_5 (by decide) (fun q4 => ?_) (fun q4 => ?_)
  · replace h := h.1 q4
    refine ra_aload_n E dX13_doFlour_10 rfl 0 rfl ?_
    refine ra_iload_n E dX13_doFlour_11 rfl 1 rfl ?_
    refine ra_iconst E dX13_doFlour_12 ki_0 ?_
    refine ra_callIV (rest := []) E (c_X13_isFree _ _ _ _ h) lq_13 cv_X13_isFree ml_X13_112 (by decide) (lmM (by decide)) (fun R => ⟨_, cel_699 tc ad R⟩) rfl rfl rfl (Nat.le_of_ble_eq_true rfl) ⟨Nat.le_of_ble_eq_true rfl, Nat.le_of_ble_eq_true rfl⟩ ⟨Nat.zero_le _, Nat.zero_le _⟩ dX13_doFlour_13 (fun r6 M5 h => ?_)
    obtain ⟨b7, h⟩ := h
    refine ra_if_eq (tgt := 32) E dX13_doFlour_16 (by decide) (fun q8 => ?_) (fun q8 => ?_)
    · replace h := h.1 q8
      refine ra_iconst E dX13_doFlour_32 ki_3 ?_
      exact ra_iret E hr dX13_doFlour_33 h
    · replace h := h.2 q8
      refine ra_aload_n E dX13_doFlour_19 rfl 0 rfl ?_
      refine ra_iload_n E dX13_doFlour_20 rfl 1 rfl ?_
      refine ra_iconst E dX13_doFlour_21 ki_3 ?_
      refine ra_callIV (rest := []) E (c_X13_of _ _ _ _ h) lq_13 cv_X13_of ml_X13_93 (by decide) (lmM (by decide)) (fun R => ⟨_, cel_699 tc ad R⟩) rfl rfl rfl (Nat.le_of_ble_eq_true rfl) ⟨Nat.le_of_ble_eq_true rfl, Nat.le_of_ble_eq_true rfl⟩ ⟨Nat.zero_le _, Nat.zero_le _⟩ dX13_doFlour_22 (fun r10 M9 h => ?_)
      refine ra_iload_n E dX13_doFlour_25 rfl 2 rfl ?_
      refine ra_iadd E dX13_doFlour_26 ?_
      refine ra_bipush E dX13_doFlour_27 kb_99 ?_
      refine ra_icmp_le (tgt := 34) E dX13_doFlour_29 (by decide) (fun q11 => ?_) (fun q11 => ?_)
      · replace h := h.1 q11
        refine ra_aload_n E dX13_doFlour_34 rfl 0 rfl ?_
        refine ra_iload_n E dX13_doFlour_35 rfl 1 rfl ?_
        refine ra_iconst E dX13_doFlour_36 ki_3 ?_
        refine ra_iload_n E dX13_doFlour_37 rfl 2 rfl ?_
        refine ra_callVV (rest := []) E (c_X13_add _ _ _ _ _ h) lq_13 cv_X13_add ml_X13_176 (by decide) (lmM (by decide)) (fun R => ⟨_, cel_699 tc ad R⟩) rfl rfl rfl (Nat.le_of_ble_eq_true rfl) ⟨Nat.le_of_ble_eq_true rfl, Nat.le_of_ble_eq_true rfl⟩ ⟨Nat.zero_le _, Nat.zero_le _⟩ dX13_doFlour_38 (fun M12 h => ?_)
        refine ra_aload_n E dX13_doFlour_41 rfl 0 rfl ?_
        obtain ⟨g13, h⟩ := h
        refine gf_X13_6 E lm13 fl_X13_28 dX13_doFlour_42 ?_
        refine ra_iconst E dX13_doFlour_45 ki_4 ?_
        refine ra_dup2 E dX13_doFlour_46 rfl rfl ?_
        obtain ⟨g14, h⟩ := h
        refine ra_iald E (lmM (isRow_of g13).lt) (cel_row tc ad (isRow_of g13)) g14 dX13_doFlour_47 ?_
        refine ra_iload_n E dX13_doFlour_48 rfl 2 rfl ?_
        refine ra_isub E dX13_doFlour_49 ?_
        obtain ⟨g15, h⟩ := h
        refine ra_iast E (lmM (isRow_of g13).lt) (cel_row tc ad (isRow_of g13)) g15 dX13_doFlour_50 ?_
        replace h := h _ rfl
        refine ra_aload_n E dX13_doFlour_51 rfl 0 rfl ?_
        refine ra_aload_n E dX13_doFlour_52 rfl 0 rfl ?_
        refine ra_iload_n E dX13_doFlour_53 rfl 1 rfl ?_
        refine ra_iconst E dX13_doFlour_54 ki_3 ?_
        refine ra_callIV (rest := [_]) E (c_X13_of _ _ _ _ h) lq_13 cv_X13_of ml_X13_93 (by decide) (lmM (by decide)) (fun R => ⟨_, cel_699 tc ad R⟩) rfl rfl rfl (Nat.le_of_ble_eq_true rfl) ⟨Nat.le_of_ble_eq_true rfl, Nat.le_of_ble_eq_true rfl⟩ ⟨Nat.zero_le _, Nat.zero_le _⟩ dX13_doFlour_55 (fun r18 M17 h => ?_)
        refine pf_X13_10 E lm13 fl_X13_245 dX13_doFlour_58 ?_
        replace h := h _ rfl
        refine ra_iconst E dX13_doFlour_61 ki_0 ?_
        exact ra_iret E hr dX13_doFlour_62 h
      · replace h := h.2 q11
        refine ra_iconst E dX13_doFlour_32 ki_3 ?_
        exact ra_iret E hr dX13_doFlour_33 h
  · replace h := h.2 q4
    refine ra_iconst E dX13_doFlour_8 ki_1 ?_
    exact ra_iret E hr dX13_doFlour_9 h
def f_X13_doCollect (p1 : Int32) (M : TM) (K : Int32 → TM → Prop) : Prop := f_X13_isBarge p1 M (fun r2 M1 => ((¬ r2 = 0 → f_X13_isInLock p1 M1 (fun r6 M5 => ((r6 = 0 → f_X13_of p1 (0 : Int32) M5 (fun r10 M9 => vp_in (M9 699 6) 2 ∧ vp_in ((40 : Int32) + r10) 377 ∧ ∀ M13, M13 = u2 M9 699 10 (M9 (700 + (M9 699 6).toNatClampNeg) ((40 : Int32) + r10).toNatClampNeg) → f_X13_add p1 (5 : Int32) (M13 699 10) M13 (fun M14 => vp_in (M14 699 6) 2 ∧ vp_in ((40 : Int32) + r10) 377 ∧ ∀ M17, M17 = u2 M14 (700 + (M14 699 6).toNatClampNeg) ((40 : Int32) + r10).toNatClampNeg (0 : Int32) → K (0 : Int32) M17))) ∧ (¬ r6 = 0 → K (2 : Int32) M5)))) ∧ (r2 = 0 → K (1 : Int32) M1)))
set_option maxRecDepth 100000 in
set_option maxHeartbeats 4000000 in
theorem c_X13_doCollect {ad : Nat → Nat} (p1 : Int32) (M : TM) (K : Int32 → TM → Prop) (h : f_X13_doCollect p1 M K) : MI yX13_doCollect cX13_doCollect 3 (some .int) 2 ad [.ref (ad 699), .int p1] M K := by
  refine MI_of RX13 rfl (by decide +kernel) (Nat.le_of_ble_eq_true rfl) (fun p l e s m below meth c D tc E hr => ?_)
  unfold f_X13_doCollect at h
  refine ra_aload_n E dX13_doCollect_0 rfl 0 rfl ?_
  refine ra_iload_n E dX13_doCollect_1 rfl 1 rfl ?_
  refine ra_callIV (rest := []) E (c_X13_isBarge _ _ _ h) lq_13 cv_X13_isBarge ml_X13_140 (by decide) (lmM (by decide)) (fun R => ⟨_, cel_699 tc ad R⟩) rfl rfl rfl (Nat.le_of_ble_eq_true rfl) ⟨Nat.le_of_ble_eq_true rfl, Nat.le_of_ble_eq_true rfl⟩ ⟨Nat.zero_le _, Nat.zero_le _⟩ dX13_doCollect_2 (fun r2 M1 h => ?_)
  obtain ⟨b3, h⟩ := h
  refine ra_if_ne (tgt := 10) E dX13_doCollect_5 (by decide) (fun q4 => ?_) (fun q4 => ?_)
  · replace h := h.1 q4
    refine ra_aload_n E dX13_doCollect_10 rfl 0 rfl ?_
    refine ra_iload_n E dX13_doCollect_11 rfl 1 rfl ?_
    refine ra_callIV (rest := []) E (c_X13_isInLock _ _ _ h) lq_13 cv_X13_isInLock ml_X13_104 (by decide) (lmM (by decide)) (fun R => ⟨_, cel_699 tc ad R⟩) rfl rfl rfl (Nat.le_of_ble_eq_true rfl) ⟨Nat.le_of_ble_eq_true rfl, Nat.le_of_ble_eq_true rfl⟩ ⟨Nat.zero_le _, Nat.zero_le _⟩ dX13_doCollect_12 (fun r6 M5 h => ?_)
    obtain ⟨b7, h⟩ := h
    refine ra_if_eq (tgt := 20) E dX13_doCollect_15 (by decide) (fun q8 => ?_) (fun q8 => ?_)
    · replace h := h.1 q8
      refine ra_bipush E dX13_doCollect_20 kb_40 ?_
      refine ra_aload_n E dX13_doCollect_22 rfl 0 rfl ?_
      refine ra_iload_n E dX13_doCollect_23 rfl 1 rfl ?_
      refine ra_iconst E dX13_doCollect_24 ki_0 ?_
      refine ra_callIV (rest := [_]) E (c_X13_of _ _ _ _ h) lq_13 cv_X13_of ml_X13_93 (by decide) (lmM (by decide)) (fun R => ⟨_, cel_699 tc ad R⟩) rfl rfl rfl (Nat.le_of_ble_eq_true rfl) ⟨Nat.le_of_ble_eq_true rfl, Nat.le_of_ble_eq_true rfl⟩ ⟨Nat.zero_le _, Nat.zero_le _⟩ dX13_doCollect_25 (fun r10 M9 h => ?_)
      refine ra_iadd E dX13_doCollect_28 ?_
      refine ra_istore_n (L' := [(2, _), (0, _), (1, _)]) E dX13_doCollect_29 rfl (by decide) rfl ?_
      refine ra_aload_n E dX13_doCollect_30 rfl 1 rfl ?_
      refine ra_aload_n E dX13_doCollect_31 rfl 1 rfl ?_
      obtain ⟨g11, h⟩ := h
      refine gf_X13_6 E lm13 fl_X13_28 dX13_doCollect_32 ?_
      refine ra_iload_n E dX13_doCollect_35 rfl 0 rfl ?_
      obtain ⟨g12, h⟩ := h
      refine ra_iald E (lmM (isRow_of g11).lt) (cel_row tc ad (isRow_of g11)) g12 dX13_doCollect_36 ?_
      refine pf_X13_10 E lm13 fl_X13_245 dX13_doCollect_37 ?_
      replace h := h _ rfl
      refine ra_aload_n E dX13_doCollect_40 rfl 1 rfl ?_
      refine ra_iload_n E dX13_doCollect_41 rfl 2 rfl ?_
      refine ra_iconst E dX13_doCollect_42 ki_5 ?_
      refine ra_aload_n E dX13_doCollect_43 rfl 1 rfl ?_
      refine gf_X13_10 E lm13 fl_X13_245 dX13_doCollect_44 ?_
      refine ra_callVV (rest := []) E (c_X13_add _ _ _ _ _ h) lq_13 cv_X13_add ml_X13_176 (by decide) (lmM (by decide)) (fun R => ⟨_, cel_699 tc ad R⟩) rfl rfl rfl (Nat.le_of_ble_eq_true rfl) ⟨Nat.le_of_ble_eq_true rfl, Nat.le_of_ble_eq_true rfl⟩ ⟨Nat.zero_le _, Nat.zero_le _⟩ dX13_doCollect_47 (fun M14 h => ?_)
      refine ra_aload_n E dX13_doCollect_50 rfl 1 rfl ?_
      obtain ⟨g15, h⟩ := h
      refine gf_X13_6 E lm13 fl_X13_28 dX13_doCollect_51 ?_
      refine ra_iload_n E dX13_doCollect_54 rfl 0 rfl ?_
      refine ra_iconst E dX13_doCollect_55 ki_0 ?_
      obtain ⟨g16, h⟩ := h
      refine ra_iast E (lmM (isRow_of g15).lt) (cel_row tc ad (isRow_of g15)) g16 dX13_doCollect_56 ?_
      replace h := h _ rfl
      refine ra_iconst E dX13_doCollect_57 ki_0 ?_
      exact ra_iret E hr dX13_doCollect_58 h
    · replace h := h.2 q8
      refine ra_iconst E dX13_doCollect_18 ki_2 ?_
      exact ra_iret E hr dX13_doCollect_19 h
  · replace h := h.2 q4
    refine ra_iconst E dX13_doCollect_8 ki_1 ?_
    exact ra_iret E hr dX13_doCollect_9 h
def f_X13_doWash (p1 : Int32) (M : TM) (K : Int32 → TM → Prop) : Prop := f_X13_isBarge p1 M (fun r2 M1 => ((¬ r2 = 0 → f_X13_isFree p1 (0 : Int32) M1 (fun r6 M5 => ((¬ r6 = 0 → f_X13_of p1 (5 : Int32) M5 (fun r10 M9 => f_X13_add p1 (4 : Int32) r10 M9 (fun M11 => f_X13_lay p1 (5 : Int32) (0 : Int32) M11 (fun M12 => f_X13_of p1 (4 : Int32) M12 (fun r14 M13 => ∀ M15, M15 = u2 M13 699 10 r14 → K (0 : Int32) M15))))) ∧ (r6 = 0 → K (2 : Int32) M5)))) ∧ (r2 = 0 → K (1 : Int32) M1)))
set_option maxRecDepth 100000 in
set_option maxHeartbeats 4000000 in
theorem c_X13_doWash {ad : Nat → Nat} (p1 : Int32) (M : TM) (K : Int32 → TM → Prop) (h : f_X13_doWash p1 M K) : MI yX13_doWash cX13_doWash 2 (some .int) 3 ad [.ref (ad 699), .int p1] M K := by
  refine MI_of RX13 rfl (by decide +kernel) (Nat.le_of_ble_eq_true rfl) (fun p l e s m below meth c D tc E hr => ?_)
  unfold f_X13_doWash at h
  refine ra_aload_n E dX13_doWash_0 rfl 0 rfl ?_
  refine ra_iload_n E dX13_doWash_1 rfl 1 rfl ?_
  refine ra_callIV (rest := []) E (c_X13_isBarge _ _ _ h) lq_13 cv_X13_isBarge ml_X13_140 (by decide) (lmM (by decide)) (fun R => ⟨_, cel_699 tc ad R⟩) rfl rfl rfl (Nat.le_of_ble_eq_true rfl) ⟨Nat.le_of_ble_eq_true rfl, Nat.le_of_ble_eq_true rfl⟩ ⟨Nat.zero_le _, Nat.zero_le _⟩ dX13_doWash_2 (fun r2 M1 h => ?_)
  obtain ⟨b3, h⟩ := h
  refine ra_if_ne (tgt := 10) E dX13_doWash_5 (by decide) (fun q4 => ?_) (fun q4 => ?_)
  · replace h := h.1 q4
    refine ra_aload_n E dX13_doWash_10 rfl 0 rfl ?_
    refine ra_iload_n E dX13_doWash_11 rfl 1 rfl ?_
    refine ra_iconst E dX13_doWash_12 ki_0 ?_
    refine ra_callIV (rest := []) E (c_X13_isFree _ _ _ _ h) lq_13 cv_X13_isFree ml_X13_112 (by decide) (lmM (by decide)) (fun R => ⟨_, cel_699 tc ad R⟩) rfl rfl rfl (Nat.le_of_ble_eq_true rfl) ⟨Nat.le_of_ble_eq_true rfl, Nat.le_of_ble_eq_true rfl⟩ ⟨Nat.zero_le _, Nat.zero_le _⟩ dX13_doWash_13 (fun r6 M5 h => ?_)
    obtain ⟨b7, h⟩ := h
    refine ra_if_ne (tgt := 21) E dX13_doWash_16 (by decide) (fun q8 => ?_) (fun q8 => ?_)
    · replace h := h.1 q8
      refine ra_aload_n E dX13_doWash_21 rfl 0 rfl ?_
      refine ra_iload_n E dX13_doWash_22 rfl 1 rfl ?_
      refine ra_iconst E dX13_doWash_23 ki_4 ?_
      refine ra_aload_n E dX13_doWash_24 rfl 0 rfl ?_
      refine ra_iload_n E dX13_doWash_25 rfl 1 rfl ?_
      refine ra_iconst E dX13_doWash_26 ki_5 ?_
      refine ra_callIV (rest := [_, _, _]) E (c_X13_of _ _ _ _ h) lq_13 cv_X13_of ml_X13_93 (by decide) (lmM (by decide)) (fun R => ⟨_, cel_699 tc ad R⟩) rfl rfl rfl (Nat.le_of_ble_eq_true rfl) ⟨Nat.le_of_ble_eq_true rfl, Nat.le_of_ble_eq_true rfl⟩ ⟨Nat.zero_le _, Nat.zero_le _⟩ dX13_doWash_27 (fun r10 M9 h => ?_)
      refine ra_callVV (rest := []) E (c_X13_add _ _ _ _ _ h) lq_13 cv_X13_add ml_X13_176 (by decide) (lmM (by decide)) (fun R => ⟨_, cel_699 tc ad R⟩) rfl rfl rfl (Nat.le_of_ble_eq_true rfl) ⟨Nat.le_of_ble_eq_true rfl, Nat.le_of_ble_eq_true rfl⟩ ⟨Nat.zero_le _, Nat.zero_le _⟩ dX13_doWash_30 (fun M11 h => ?_)
      refine ra_aload_n E dX13_doWash_33 rfl 0 rfl ?_
      refine ra_iload_n E dX13_doWash_34 rfl 1 rfl ?_
      refine ra_iconst E dX13_doWash_35 ki_5 ?_
      refine ra_iconst E dX13_doWash_36 ki_0 ?_
      refine ra_callVV (rest := []) E (c_X13_lay _ _ _ _ _ h) lq_13 cv_X13_lay ml_X13_86 (by decide) (lmM (by decide)) (fun R => ⟨_, cel_699 tc ad R⟩) rfl rfl rfl (Nat.le_of_ble_eq_true rfl) ⟨Nat.le_of_ble_eq_true rfl, Nat.le_of_ble_eq_true rfl⟩ ⟨Nat.zero_le _, Nat.zero_le _⟩ dX13_doWash_37 (fun M12 h => ?_)
      refine ra_aload_n E dX13_doWash_40 rfl 0 rfl ?_
      refine ra_aload_n E dX13_doWash_41 rfl 0 rfl ?_
      refine ra_iload_n E dX13_doWash_42 rfl 1 rfl ?_
      refine ra_iconst E dX13_doWash_43 ki_4 ?_
      refine ra_callIV (rest := [_]) E (c_X13_of _ _ _ _ h) lq_13 cv_X13_of ml_X13_93 (by decide) (lmM (by decide)) (fun R => ⟨_, cel_699 tc ad R⟩) rfl rfl rfl (Nat.le_of_ble_eq_true rfl) ⟨Nat.le_of_ble_eq_true rfl, Nat.le_of_ble_eq_true rfl⟩ ⟨Nat.zero_le _, Nat.zero_le _⟩ dX13_doWash_44 (fun r14 M13 h => ?_)
      refine pf_X13_10 E lm13 fl_X13_245 dX13_doWash_47 ?_
      replace h := h _ rfl
      refine ra_iconst E dX13_doWash_50 ki_0 ?_
      exact ra_iret E hr dX13_doWash_51 h
    · replace h := h.2 q8
      refine ra_iconst E dX13_doWash_19 ki_2 ?_
      exact ra_iret E hr dX13_doWash_20 h
  · replace h := h.2 q4
    refine ra_iconst E dX13_doWash_8 ki_1 ?_
    exact ra_iret E hr dX13_doWash_9 h
def f_X13_doWait (p1 : Int32) (M : TM) (K : Int32 → TM → Prop) : Prop := vp_in (M 699 6) 2 ∧ vp_in (0 : Int32) 377 ∧ ((((M (700 + (M 699 6).toNatClampNeg) (0 : Int32).toNatClampNeg) + p1) ≤ (10000 : Int32) → f_X13_pass p1 M (fun r5 M4 => ∀ M6, M6 = u2 M4 699 10 r5 → K (0 : Int32) M6)) ∧ (¬ ((M (700 + (M 699 6).toNatClampNeg) (0 : Int32).toNatClampNeg) + p1) ≤ (10000 : Int32) → K (2 : Int32) M))
set_option maxRecDepth 100000 in
set_option maxHeartbeats 4000000 in
theorem c_X13_doWait {ad : Nat → Nat} (p1 : Int32) (M : TM) (K : Int32 → TM → Prop) (h : f_X13_doWait p1 M K) : MI yX13_doWait cX13_doWait 2 (some .int) 8 ad [.ref (ad 699), .int p1] M K := by
  refine MI_of RX13 rfl (by decide +kernel) (Nat.le_of_ble_eq_true rfl) (fun p l e s m below meth c D tc E hr => ?_)
  unfold f_X13_doWait at h
  refine ra_aload_n E dX13_doWait_0 rfl 0 rfl ?_
  obtain ⟨g1, h⟩ := h
  refine gf_X13_6 E lm13 fl_X13_28 dX13_doWait_1 ?_
  refine ra_iconst E dX13_doWait_4 ki_0 ?_
  obtain ⟨g2, h⟩ := h
  refine ra_iald E (lmM (isRow_of g1).lt) (cel_row tc ad (isRow_of g1)) g2 dX13_doWait_5 ?_
  refine ra_iload_n E dX13_doWait_6 rfl 1 rfl ?_
  refine ra_iadd E dX13_doWait_7 ?_
  refine ra_sipush E dX13_doWait_8 ks_10000 ?_
  refine ra_icmp_le (tgt := 16) E dX13_doWait_11 (by decide) (fun q3 => ?_) (fun q3 => ?_)
  · replace h := h.1 q3
    refine ra_aload_n E dX13_doWait_16 rfl 0 rfl ?_
    refine ra_aload_n E dX13_doWait_17 rfl 0 rfl ?_
    refine ra_iload_n E dX13_doWait_18 rfl 1 rfl ?_
    refine ra_callIV (rest := [_]) E (c_X13_pass _ _ _ h) lq_13 cv_X13_pass ml_X13_233 (by decide) (lmM (by decide)) (fun R => ⟨_, cel_699 tc ad R⟩) rfl rfl rfl (Nat.le_of_ble_eq_true rfl) ⟨Nat.le_of_ble_eq_true rfl, Nat.le_of_ble_eq_true rfl⟩ ⟨Nat.zero_le _, Nat.zero_le _⟩ dX13_doWait_19 (fun r5 M4 h => ?_)
    refine pf_X13_10 E lm13 fl_X13_245 dX13_doWait_22 ?_
    replace h := h _ rfl
    refine ra_iconst E dX13_doWait_25 ki_0 ?_
    exact ra_iret E hr dX13_doWait_26 h
  · replace h := h.2 q3
    refine ra_iconst E dX13_doWait_14 ki_2 ?_
    exact ra_iret E hr dX13_doWait_15 h
def f_X13_keep  (M : TM) (K : TM → Prop) : Prop := f_X13_copy 700 377 (0 : Int32) 703 377 (0 : Int32) M (fun M1 => K M1)
set_option maxRecDepth 100000 in
set_option maxHeartbeats 4000000 in
theorem c_X13_keep {ad : Nat → Nat}  (M : TM) (K : TM → Prop) (h : f_X13_keep  M K) : MV yX13_keep cX13_keep 1 2 ad [.ref (ad 699)] M K := by
  refine MV_of RX13 rfl (by decide +kernel) (Nat.le_of_ble_eq_true rfl) (fun p l e s m below meth c D tc E hr => ?_)
  unfold f_X13_keep at h
  refine ra_aload_n E dX13_keep_0 rfl 0 rfl ?_
  refine gf_X13_0 E lm13 fl_X13_9 dX13_keep_1 ?_
  refine ra_iconst E dX13_keep_4 ki_0 ?_
  refine ra_aload_n E dX13_keep_5 rfl 0 rfl ?_
  refine gf_X13_3 E lm13 fl_X13_19 dX13_keep_6 ?_
  refine ra_iconst E dX13_keep_9 ki_0 ?_
  refine ra_callVS (rest := []) E (c_X13_copy _ _ (⟨(by decide), fun tc ad => (cel_700 tc ad)⟩) _ _ _ (⟨(by decide), fun tc ad => (cel_703 tc ad)⟩) _ _ _ h) lq_13 ct_X13_copy ml_X13_229 (by decide) rfl rfl (Nat.le_of_ble_eq_true rfl) ⟨Nat.le_of_ble_eq_true rfl, Nat.le_of_ble_eq_true rfl⟩ ⟨Nat.zero_le _, Nat.zero_le _⟩ dX13_keep_10 (fun M1 h => ?_)
  exact ra_vret E hr dX13_keep_13 h
def f_X13_record_L48  (K : TM → Prop)  (M : TM) : Prop := f_X13_copy 703 377 (0 : Int32) 705 3016 (M 699 7) M (fun M2 => ∀ M3, M3 = u2 M2 699 7 ((M2 699 7) + (1 : Int32)) → K M3)
set_option maxRecDepth 100000 in
set_option maxHeartbeats 4000000 in
theorem l_X13_record_L48 {p : Program} {l : Launch} {e : Env} {s : State} {m : MethodId} {args : Array Value} {below : List Frame} {meth : Method} {c : Code} {D : va_G} {tc : Nat → ClassId} {ad : Nat → Nat}  {K : TM → Prop} (E : Ev p s m args meth c D tc ad RX13 cX13_record 2) (hr : meth.sig.returnType = none) : ∀  (M : TM) , f_X13_record_L48  K  M → Wa p l e (rmD 2) s m args below meth c 0 0 (MQ below (va_Qv K (EndW D tc ad) (A0 ad s.heap.size)) args s 0 0 (A0 ad s.heap.size)) D tc ad 2 M 48 [(0, .ref (ad 699))] [] := by
  intro  M  h
  unfold f_X13_record_L48 at h
  refine ra_aload_n E dX13_record_48 rfl 0 rfl ?_
  refine gf_X13_3 E lm13 fl_X13_19 dX13_record_49 ?_
  refine ra_iconst E dX13_record_52 ki_0 ?_
  refine ra_aload_n E dX13_record_53 rfl 0 rfl ?_
  refine gf_X13_5 E lm13 fl_X13_25 dX13_record_54 ?_
  refine ra_aload_n E dX13_record_57 rfl 0 rfl ?_
  refine gf_X13_7 E lm13 fl_X13_248 dX13_record_58 ?_
  refine ra_callVS (rest := []) E (c_X13_copy _ _ (⟨(by decide), fun tc ad => (cel_703 tc ad)⟩) _ _ _ (⟨(by decide), fun tc ad => (cel_705 tc ad)⟩) _ _ _ h) lq_13 ct_X13_copy ml_X13_229 (by decide) rfl rfl (Nat.le_of_ble_eq_true rfl) ⟨Nat.le_of_ble_eq_true rfl, Nat.le_of_ble_eq_true rfl⟩ ⟨Nat.zero_le _, Nat.zero_le _⟩ dX13_record_61 (fun M2 h => ?_)
  refine ra_aload_n E dX13_record_64 rfl 0 rfl ?_
  refine ra_dup E dX13_record_65 rfl ?_
  refine gf_X13_7 E lm13 fl_X13_248 dX13_record_66 ?_
  refine ra_iconst E dX13_record_69 ki_1 ?_
  refine ra_iadd E dX13_record_70 ?_
  refine pf_X13_7 E lm13 fl_X13_248 dX13_record_71 ?_
  replace h := h _ rfl
  exact ra_vret E hr dX13_record_74 h
def f_X13_record_L11  (K : TM → Prop) : Nat → Int32 → TM → Prop
  | 0, _, _ => False
  | n + 1, x1, M => (((8 : Int32) ≤ x1 → ∀ M5, M5 = u2 M 699 7 ((M 699 7) - (1 : Int32)) → f_X13_record_L48 K M5) ∧ (¬ (8 : Int32) ≤ x1 → f_X13_copy 705 3016 x1 705 3016 (x1 - (1 : Int32)) M (fun M6 => f_X13_record_L11 K n (x1 + 1) M6)))
set_option maxRecDepth 100000 in
set_option maxHeartbeats 4000000 in
theorem l_X13_record_L11 {p : Program} {l : Launch} {e : Env} {s : State} {m : MethodId} {args : Array Value} {below : List Frame} {meth : Method} {c : Code} {D : va_G} {tc : Nat → ClassId} {ad : Nat → Nat}  {K : TM → Prop} (E : Ev p s m args meth c D tc ad RX13 cX13_record 2) (hr : meth.sig.returnType = none) : ∀ (n : Nat) (x1 : Int32) (M : TM) , f_X13_record_L11  K n x1 M → Wa p l e (rmD 2) s m args below meth c 0 0 (MQ below (va_Qv K (EndW D tc ad) (A0 ad s.heap.size)) args s 0 0 (A0 ad s.heap.size)) D tc ad 2 M 11 [(0, .ref (ad 699)), (1, .int x1)] [] := by
  intro n
  induction n with
  | zero => intro x1 M  h; exact h.elim
  | succ n ih =>
    intro x1 M  h
    unfold f_X13_record_L11 at h
    refine ra_iload_n E dX13_record_11 rfl 1 rfl ?_
    refine ra_bipush E dX13_record_12 kb_8 ?_
    refine ra_icmp_ge (tgt := 38) E dX13_record_14 (by decide) (fun q4 => ?_) (fun q4 => ?_)
    · replace h := h.1 q4
      refine ra_aload_n E dX13_record_38 rfl 0 rfl ?_
      refine ra_dup E dX13_record_39 rfl ?_
      refine gf_X13_7 E lm13 fl_X13_248 dX13_record_40 ?_
      refine ra_iconst E dX13_record_43 ki_1 ?_
      refine ra_isub E dX13_record_44 ?_
      refine pf_X13_7 E lm13 fl_X13_248 dX13_record_45 ?_
      replace h := h _ rfl
      exact ra_sub (L' := [(0, _)]) [0] rfl (l_X13_record_L48 E hr _ h)
    · replace h := h.2 q4
      refine ra_aload_n E dX13_record_17 rfl 0 rfl ?_
      refine gf_X13_5 E lm13 fl_X13_25 dX13_record_18 ?_
      refine ra_iload_n E dX13_record_21 rfl 1 rfl ?_
      refine ra_aload_n E dX13_record_22 rfl 0 rfl ?_
      refine gf_X13_5 E lm13 fl_X13_25 dX13_record_23 ?_
      refine ra_iload_n E dX13_record_26 rfl 1 rfl ?_
      refine ra_iconst E dX13_record_27 ki_1 ?_
      refine ra_isub E dX13_record_28 ?_
      refine ra_callVS (rest := []) E (c_X13_copy _ _ (⟨(by decide), fun tc ad => (cel_705 tc ad)⟩) _ _ _ (⟨(by decide), fun tc ad => (cel_705 tc ad)⟩) _ _ _ h) lq_13 ct_X13_copy ml_X13_229 (by decide) rfl rfl (Nat.le_of_ble_eq_true rfl) ⟨Nat.le_of_ble_eq_true rfl, Nat.le_of_ble_eq_true rfl⟩ ⟨Nat.zero_le _, Nat.zero_le _⟩ dX13_record_29 (fun M6 h => ?_)
      refine ra_iinc1 (L' := [(1, _), (0, _)]) E dX13_record_32 1 rfl (by decide) rfl ?_
      refine ra_goto (tgt := 11) E dX13_record_35 (by decide) ?_
      exact ra_sub (L' := [(0, _), (1, _)]) [1, 0] rfl (ih _ _ h)
def f_X13_record  (M : TM) (K : TM → Prop) : Prop := ((¬ (M 699 7) = (8 : Int32) → f_X13_record_L48 K M) ∧ ((M 699 7) = (8 : Int32) → ∃ n, f_X13_record_L11 K n (1 : Int32) M))
set_option maxRecDepth 100000 in
set_option maxHeartbeats 4000000 in
theorem c_X13_record {ad : Nat → Nat}  (M : TM) (K : TM → Prop) (h : f_X13_record  M K) : MV yX13_record cX13_record 2 2 ad [.ref (ad 699)] M K := by
  refine MV_of RX13 rfl (by decide +kernel) (Nat.le_of_ble_eq_true rfl) (fun p l e s m below meth c D tc E hr => ?_)
  unfold f_X13_record at h
  refine ra_aload_n E dX13_record_0 rfl 0 rfl ?_
  refine gf_X13_7 E lm13 fl_X13_248 dX13_record_1 ?_
  refine ra_bipush E dX13_record_4 kb_8 ?_
  refine ra_icmp_ne (tgt := 48) E dX13_record_6 (by decide) (fun q1 => ?_) (fun q1 => ?_)
  · replace h := h.1 q1
    exact ra_sub (L' := [(0, _)]) [0] rfl (l_X13_record_L48 E hr _ h)
  · replace h := h.2 q1
    refine ra_iconst E dX13_record_9 ki_1 ?_
    refine ra_istore_n (L' := [(1, _), (0, _)]) E dX13_record_10 rfl (by decide) rfl ?_
    obtain ⟨n7, h⟩ := h
    exact ra_sub (L' := [(0, _), (1, _)]) [1, 0] rfl (l_X13_record_L11 E hr n7 _ _ h)
def f_X13_ends (p1 : Int32) (M : TM) (K : Int32 → TM → Prop) : Prop := ∀ M1, M1 = u2 M 699 8 p1 → ((p1 = 0 → f_X13_record M1 (fun M3 => K (M3 699 10) M3)) ∧ (¬ p1 = 0 → K (0 : Int32) M1))
set_option maxRecDepth 100000 in
set_option maxHeartbeats 4000000 in
theorem c_X13_ends {ad : Nat → Nat} (p1 : Int32) (M : TM) (K : Int32 → TM → Prop) (h : f_X13_ends p1 M K) : MI yX13_ends cX13_ends 2 (some .int) 3 ad [.ref (ad 699), .int p1] M K := by
  refine MI_of RX13 rfl (by decide +kernel) (Nat.le_of_ble_eq_true rfl) (fun p l e s m below meth c D tc E hr => ?_)
  unfold f_X13_ends at h
  refine ra_aload_n E dX13_ends_0 rfl 0 rfl ?_
  refine ra_iload_n E dX13_ends_1 rfl 1 rfl ?_
  refine pf_X13_8 E lm13 fl_X13_79 dX13_ends_2 ?_
  replace h := h _ rfl
  refine ra_iload_n E dX13_ends_5 rfl 1 rfl ?_
  refine ra_if_eq (tgt := 11) E dX13_ends_6 (by decide) (fun q2 => ?_) (fun q2 => ?_)
  · replace h := h.1 q2
    refine ra_aload_n E dX13_ends_11 rfl 0 rfl ?_
    refine ra_callVV (rest := []) E (c_X13_record _ _ h) lq_13 cv_X13_record ml_X13_251 (by decide) (lmM (by decide)) (fun R => ⟨_, cel_699 tc ad R⟩) rfl rfl rfl (Nat.le_of_ble_eq_true rfl) ⟨Nat.le_of_ble_eq_true rfl, Nat.le_of_ble_eq_true rfl⟩ ⟨Nat.zero_le _, Nat.zero_le _⟩ dX13_ends_12 (fun M3 h => ?_)
    refine ra_aload_n E dX13_ends_15 rfl 0 rfl ?_
    refine gf_X13_10 E lm13 fl_X13_245 dX13_ends_16 ?_
    exact ra_iret E hr dX13_ends_19 h
  · replace h := h.2 q2
    refine ra_iconst E dX13_ends_9 ki_0 ?_
    exact ra_iret E hr dX13_ends_10 h
def f_X13_sail (p1 : Int32) (p2 : Int32) (M : TM) (K : Int32 → TM → Prop) : Prop := f_X13_keep M (fun M1 => f_X13_doSail p1 p2 M1 (fun r3 M2 => f_X13_ends r3 M2 (fun r5 M4 => K r5 M4)))
set_option maxRecDepth 100000 in
set_option maxHeartbeats 4000000 in
theorem c_X13_sail {ad : Nat → Nat} (p1 : Int32) (p2 : Int32) (M : TM) (K : Int32 → TM → Prop) (h : f_X13_sail p1 p2 M K) : MI yX13_sail cX13_sail 3 (some .int) 4 ad [.ref (ad 699), .int p1, .int p2] M K := by
  refine MI_of RX13 rfl (by decide +kernel) (Nat.le_of_ble_eq_true rfl) (fun p l e s m below meth c D tc E hr => ?_)
  unfold f_X13_sail at h
  refine ra_aload_n E dX13_sail_0 rfl 0 rfl ?_
  refine ra_callVV (rest := []) E (c_X13_keep _ _ h) lq_13 cv_X13_keep ml_X13_254 (by decide) (lmM (by decide)) (fun R => ⟨_, cel_699 tc ad R⟩) rfl rfl rfl (Nat.le_of_ble_eq_true rfl) ⟨Nat.le_of_ble_eq_true rfl, Nat.le_of_ble_eq_true rfl⟩ ⟨Nat.zero_le _, Nat.zero_le _⟩ dX13_sail_1 (fun M1 h => ?_)
  refine ra_aload_n E dX13_sail_4 rfl 0 rfl ?_
  refine ra_aload_n E dX13_sail_5 rfl 0 rfl ?_
  refine ra_iload_n E dX13_sail_6 rfl 1 rfl ?_
  refine ra_iload_n E dX13_sail_7 rfl 2 rfl ?_
  refine ra_callIV (rest := [_]) E (c_X13_doSail _ _ _ _ h) lq_13 cv_X13_doSail ml_X13_257 (by decide) (lmM (by decide)) (fun R => ⟨_, cel_699 tc ad R⟩) rfl rfl rfl (Nat.le_of_ble_eq_true rfl) ⟨Nat.le_of_ble_eq_true rfl, Nat.le_of_ble_eq_true rfl⟩ ⟨Nat.zero_le _, Nat.zero_le _⟩ dX13_sail_8 (fun r3 M2 h => ?_)
  refine ra_callIV (rest := []) E (c_X13_ends _ _ _ h) lq_13 cv_X13_ends ml_X13_260 (by decide) (lmM (by decide)) (fun R => ⟨_, cel_699 tc ad R⟩) rfl rfl rfl (Nat.le_of_ble_eq_true rfl) ⟨Nat.le_of_ble_eq_true rfl, Nat.le_of_ble_eq_true rfl⟩ ⟨Nat.zero_le _, Nat.zero_le _⟩ dX13_sail_11 (fun r5 M4 h => ?_)
  exact ra_iret E hr dX13_sail_14 h
def f_X13_take (p1 : Int32) (p2 : Int32) (M : TM) (K : Int32 → TM → Prop) : Prop := f_X13_keep M (fun M1 => f_X13_doTake p1 p2 M1 (fun r3 M2 => f_X13_ends r3 M2 (fun r5 M4 => K r5 M4)))
set_option maxRecDepth 100000 in
set_option maxHeartbeats 4000000 in
theorem c_X13_take {ad : Nat → Nat} (p1 : Int32) (p2 : Int32) (M : TM) (K : Int32 → TM → Prop) (h : f_X13_take p1 p2 M K) : MI yX13_take cX13_take 3 (some .int) 5 ad [.ref (ad 699), .int p1, .int p2] M K := by
  refine MI_of RX13 rfl (by decide +kernel) (Nat.le_of_ble_eq_true rfl) (fun p l e s m below meth c D tc E hr => ?_)
  unfold f_X13_take at h
  refine ra_aload_n E dX13_take_0 rfl 0 rfl ?_
  refine ra_callVV (rest := []) E (c_X13_keep _ _ h) lq_13 cv_X13_keep ml_X13_254 (by decide) (lmM (by decide)) (fun R => ⟨_, cel_699 tc ad R⟩) rfl rfl rfl (Nat.le_of_ble_eq_true rfl) ⟨Nat.le_of_ble_eq_true rfl, Nat.le_of_ble_eq_true rfl⟩ ⟨Nat.zero_le _, Nat.zero_le _⟩ dX13_take_1 (fun M1 h => ?_)
  refine ra_aload_n E dX13_take_4 rfl 0 rfl ?_
  refine ra_aload_n E dX13_take_5 rfl 0 rfl ?_
  refine ra_iload_n E dX13_take_6 rfl 1 rfl ?_
  refine ra_iload_n E dX13_take_7 rfl 2 rfl ?_
  refine ra_callIV (rest := [_]) E (c_X13_doTake _ _ _ _ h) lq_13 cv_X13_doTake ml_X13_271 (by decide) (lmM (by decide)) (fun R => ⟨_, cel_699 tc ad R⟩) rfl rfl rfl (Nat.le_of_ble_eq_true rfl) ⟨Nat.le_of_ble_eq_true rfl, Nat.le_of_ble_eq_true rfl⟩ ⟨Nat.zero_le _, Nat.zero_le _⟩ dX13_take_8 (fun r3 M2 h => ?_)
  refine ra_callIV (rest := []) E (c_X13_ends _ _ _ h) lq_13 cv_X13_ends ml_X13_260 (by decide) (lmM (by decide)) (fun R => ⟨_, cel_699 tc ad R⟩) rfl rfl rfl (Nat.le_of_ble_eq_true rfl) ⟨Nat.le_of_ble_eq_true rfl, Nat.le_of_ble_eq_true rfl⟩ ⟨Nat.zero_le _, Nat.zero_le _⟩ dX13_take_11 (fun r5 M4 h => ?_)
  exact ra_iret E hr dX13_take_14 h
def f_X13_drop (p1 : Int32) (M : TM) (K : Int32 → TM → Prop) : Prop := f_X13_keep M (fun M1 => f_X13_doDrop p1 M1 (fun r3 M2 => f_X13_ends r3 M2 (fun r5 M4 => K r5 M4)))
set_option maxRecDepth 100000 in
set_option maxHeartbeats 4000000 in
theorem c_X13_drop {ad : Nat → Nat} (p1 : Int32) (M : TM) (K : Int32 → TM → Prop) (h : f_X13_drop p1 M K) : MI yX13_drop cX13_drop 2 (some .int) 4 ad [.ref (ad 699), .int p1] M K := by
  refine MI_of RX13 rfl (by decide +kernel) (Nat.le_of_ble_eq_true rfl) (fun p l e s m below meth c D tc E hr => ?_)
  unfold f_X13_drop at h
  refine ra_aload_n E dX13_drop_0 rfl 0 rfl ?_
  refine ra_callVV (rest := []) E (c_X13_keep _ _ h) lq_13 cv_X13_keep ml_X13_254 (by decide) (lmM (by decide)) (fun R => ⟨_, cel_699 tc ad R⟩) rfl rfl rfl (Nat.le_of_ble_eq_true rfl) ⟨Nat.le_of_ble_eq_true rfl, Nat.le_of_ble_eq_true rfl⟩ ⟨Nat.zero_le _, Nat.zero_le _⟩ dX13_drop_1 (fun M1 h => ?_)
  refine ra_aload_n E dX13_drop_4 rfl 0 rfl ?_
  refine ra_aload_n E dX13_drop_5 rfl 0 rfl ?_
  refine ra_iload_n E dX13_drop_6 rfl 1 rfl ?_
  refine ra_callIV (rest := [_]) E (c_X13_doDrop _ _ _ h) lq_13 cv_X13_doDrop ml_X13_274 (by decide) (lmM (by decide)) (fun R => ⟨_, cel_699 tc ad R⟩) rfl rfl rfl (Nat.le_of_ble_eq_true rfl) ⟨Nat.le_of_ble_eq_true rfl, Nat.le_of_ble_eq_true rfl⟩ ⟨Nat.zero_le _, Nat.zero_le _⟩ dX13_drop_7 (fun r3 M2 h => ?_)
  refine ra_callIV (rest := []) E (c_X13_ends _ _ _ h) lq_13 cv_X13_ends ml_X13_260 (by decide) (lmM (by decide)) (fun R => ⟨_, cel_699 tc ad R⟩) rfl rfl rfl (Nat.le_of_ble_eq_true rfl) ⟨Nat.le_of_ble_eq_true rfl, Nat.le_of_ble_eq_true rfl⟩ ⟨Nat.zero_le _, Nat.zero_le _⟩ dX13_drop_10 (fun r5 M4 h => ?_)
  exact ra_iret E hr dX13_drop_13 h
def f_X13_buyFlour (p1 : Int32) (p2 : Int32) (M : TM) (K : Int32 → TM → Prop) : Prop := f_X13_isBarge p1 M (fun r2 M1 => f_X13_inRange p2 (1 : Int32) (99 : Int32) M1 (fun r5 M4 => f_X13_lacksBoth r2 r5 M4 (fun r8 M7 => ((r8 = 0 → f_X13_keep M7 (fun M11 => f_X13_doFlour p1 p2 M11 (fun r13 M12 => f_X13_ends r13 M12 (fun r15 M14 => K r15 M14)))) ∧ (¬ r8 = 0 → K (0 : Int32) M7)))))
set_option maxRecDepth 100000 in
set_option maxHeartbeats 4000000 in
theorem c_X13_buyFlour {ad : Nat → Nat} (p1 : Int32) (p2 : Int32) (M : TM) (K : Int32 → TM → Prop) (h : f_X13_buyFlour p1 p2 M K) : MI yX13_buyFlour cX13_buyFlour 3 (some .int) 4 ad [.ref (ad 699), .int p1, .int p2] M K := by
  refine MI_of RX13 rfl (by decide +kernel) (Nat.le_of_ble_eq_true rfl) (fun p l e s m below meth c D tc E hr => ?_)
  unfold f_X13_buyFlour at h
  refine ra_aload_n E dX13_buyFlour_0 rfl 0 rfl ?_
  refine ra_aload_n E dX13_buyFlour_1 rfl 0 rfl ?_
  refine ra_iload_n E dX13_buyFlour_2 rfl 1 rfl ?_
  refine ra_callIV (rest := [_]) E (c_X13_isBarge _ _ _ h) lq_13 cv_X13_isBarge ml_X13_140 (by decide) (lmM (by decide)) (fun R => ⟨_, cel_699 tc ad R⟩) rfl rfl rfl (Nat.le_of_ble_eq_true rfl) ⟨Nat.le_of_ble_eq_true rfl, Nat.le_of_ble_eq_true rfl⟩ ⟨Nat.zero_le _, Nat.zero_le _⟩ dX13_buyFlour_3 (fun r2 M1 h => ?_)
  obtain ⟨b3, h⟩ := h
  refine ra_iload_n E dX13_buyFlour_6 rfl 2 rfl ?_
  refine ra_iconst E dX13_buyFlour_7 ki_1 ?_
  refine ra_bipush E dX13_buyFlour_8 kb_99 ?_
  refine ra_callIS (rest := [_, _]) E (c_X13_inRange _ _ _ _ _ h) lq_13 ct_X13_inRange ml_X13_97 (by decide) rfl rfl (Nat.le_of_ble_eq_true rfl) ⟨Nat.le_of_ble_eq_true rfl, Nat.le_of_ble_eq_true rfl⟩ ⟨Nat.zero_le _, Nat.zero_le _⟩ dX13_buyFlour_10 (fun r5 M4 h => ?_)
  obtain ⟨b6, h⟩ := h
  refine ra_callIV (rest := []) E (c_X13_lacksBoth _ _ _ _ h) lq_13 cv_X13_lacksBoth ml_X13_263 (by decide) (lmM (by decide)) (fun R => ⟨_, cel_699 tc ad R⟩) rfl rfl rfl (Nat.le_of_ble_eq_true rfl) ⟨Nat.le_of_ble_eq_true rfl, Nat.le_of_ble_eq_true rfl⟩ ⟨Nat.zero_le _, Nat.zero_le _⟩ dX13_buyFlour_13 (fun r8 M7 h => ?_)
  obtain ⟨b9, h⟩ := h
  refine ra_if_eq (tgt := 21) E dX13_buyFlour_16 (by decide) (fun q10 => ?_) (fun q10 => ?_)
  · replace h := h.1 q10
    refine ra_aload_n E dX13_buyFlour_21 rfl 0 rfl ?_
    refine ra_callVV (rest := []) E (c_X13_keep _ _ h) lq_13 cv_X13_keep ml_X13_254 (by decide) (lmM (by decide)) (fun R => ⟨_, cel_699 tc ad R⟩) rfl rfl rfl (Nat.le_of_ble_eq_true rfl) ⟨Nat.le_of_ble_eq_true rfl, Nat.le_of_ble_eq_true rfl⟩ ⟨Nat.zero_le _, Nat.zero_le _⟩ dX13_buyFlour_22 (fun M11 h => ?_)
    refine ra_aload_n E dX13_buyFlour_25 rfl 0 rfl ?_
    refine ra_aload_n E dX13_buyFlour_26 rfl 0 rfl ?_
    refine ra_iload_n E dX13_buyFlour_27 rfl 1 rfl ?_
    refine ra_iload_n E dX13_buyFlour_28 rfl 2 rfl ?_
    refine ra_callIV (rest := [_]) E (c_X13_doFlour _ _ _ _ h) lq_13 cv_X13_doFlour ml_X13_277 (by decide) (lmM (by decide)) (fun R => ⟨_, cel_699 tc ad R⟩) rfl rfl rfl (Nat.le_of_ble_eq_true rfl) ⟨Nat.le_of_ble_eq_true rfl, Nat.le_of_ble_eq_true rfl⟩ ⟨Nat.zero_le _, Nat.zero_le _⟩ dX13_buyFlour_29 (fun r13 M12 h => ?_)
    refine ra_callIV (rest := []) E (c_X13_ends _ _ _ h) lq_13 cv_X13_ends ml_X13_260 (by decide) (lmM (by decide)) (fun R => ⟨_, cel_699 tc ad R⟩) rfl rfl rfl (Nat.le_of_ble_eq_true rfl) ⟨Nat.le_of_ble_eq_true rfl, Nat.le_of_ble_eq_true rfl⟩ ⟨Nat.zero_le _, Nat.zero_le _⟩ dX13_buyFlour_32 (fun r15 M14 h => ?_)
    exact ra_iret E hr dX13_buyFlour_35 h
  · replace h := h.2 q10
    refine ra_iconst E dX13_buyFlour_19 ki_0 ?_
    exact ra_iret E hr dX13_buyFlour_20 h
def f_X13_collect (p1 : Int32) (M : TM) (K : Int32 → TM → Prop) : Prop := f_X13_keep M (fun M1 => f_X13_doCollect p1 M1 (fun r3 M2 => f_X13_ends r3 M2 (fun r5 M4 => K r5 M4)))
set_option maxRecDepth 100000 in
set_option maxHeartbeats 4000000 in
theorem c_X13_collect {ad : Nat → Nat} (p1 : Int32) (M : TM) (K : Int32 → TM → Prop) (h : f_X13_collect p1 M K) : MI yX13_collect cX13_collect 2 (some .int) 4 ad [.ref (ad 699), .int p1] M K := by
  refine MI_of RX13 rfl (by decide +kernel) (Nat.le_of_ble_eq_true rfl) (fun p l e s m below meth c D tc E hr => ?_)
  unfold f_X13_collect at h
  refine ra_aload_n E dX13_collect_0 rfl 0 rfl ?_
  refine ra_callVV (rest := []) E (c_X13_keep _ _ h) lq_13 cv_X13_keep ml_X13_254 (by decide) (lmM (by decide)) (fun R => ⟨_, cel_699 tc ad R⟩) rfl rfl rfl (Nat.le_of_ble_eq_true rfl) ⟨Nat.le_of_ble_eq_true rfl, Nat.le_of_ble_eq_true rfl⟩ ⟨Nat.zero_le _, Nat.zero_le _⟩ dX13_collect_1 (fun M1 h => ?_)
  refine ra_aload_n E dX13_collect_4 rfl 0 rfl ?_
  refine ra_aload_n E dX13_collect_5 rfl 0 rfl ?_
  refine ra_iload_n E dX13_collect_6 rfl 1 rfl ?_
  refine ra_callIV (rest := [_]) E (c_X13_doCollect _ _ _ h) lq_13 cv_X13_doCollect ml_X13_280 (by decide) (lmM (by decide)) (fun R => ⟨_, cel_699 tc ad R⟩) rfl rfl rfl (Nat.le_of_ble_eq_true rfl) ⟨Nat.le_of_ble_eq_true rfl, Nat.le_of_ble_eq_true rfl⟩ ⟨Nat.zero_le _, Nat.zero_le _⟩ dX13_collect_7 (fun r3 M2 h => ?_)
  refine ra_callIV (rest := []) E (c_X13_ends _ _ _ h) lq_13 cv_X13_ends ml_X13_260 (by decide) (lmM (by decide)) (fun R => ⟨_, cel_699 tc ad R⟩) rfl rfl rfl (Nat.le_of_ble_eq_true rfl) ⟨Nat.le_of_ble_eq_true rfl, Nat.le_of_ble_eq_true rfl⟩ ⟨Nat.zero_le _, Nat.zero_le _⟩ dX13_collect_10 (fun r5 M4 h => ?_)
  exact ra_iret E hr dX13_collect_13 h
def f_X13_wash (p1 : Int32) (M : TM) (K : Int32 → TM → Prop) : Prop := f_X13_keep M (fun M1 => f_X13_doWash p1 M1 (fun r3 M2 => f_X13_ends r3 M2 (fun r5 M4 => K r5 M4)))
set_option maxRecDepth 100000 in
set_option maxHeartbeats 4000000 in
theorem c_X13_wash {ad : Nat → Nat} (p1 : Int32) (M : TM) (K : Int32 → TM → Prop) (h : f_X13_wash p1 M K) : MI yX13_wash cX13_wash 2 (some .int) 4 ad [.ref (ad 699), .int p1] M K := by
  refine MI_of RX13 rfl (by decide +kernel) (Nat.le_of_ble_eq_true rfl) (fun p l e s m below meth c D tc E hr => ?_)
  unfold f_X13_wash at h
  refine ra_aload_n E dX13_wash_0 rfl 0 rfl ?_
  refine ra_callVV (rest := []) E (c_X13_keep _ _ h) lq_13 cv_X13_keep ml_X13_254 (by decide) (lmM (by decide)) (fun R => ⟨_, cel_699 tc ad R⟩) rfl rfl rfl (Nat.le_of_ble_eq_true rfl) ⟨Nat.le_of_ble_eq_true rfl, Nat.le_of_ble_eq_true rfl⟩ ⟨Nat.zero_le _, Nat.zero_le _⟩ dX13_wash_1 (fun M1 h => ?_)
  refine ra_aload_n E dX13_wash_4 rfl 0 rfl ?_
  refine ra_aload_n E dX13_wash_5 rfl 0 rfl ?_
  refine ra_iload_n E dX13_wash_6 rfl 1 rfl ?_
  refine ra_callIV (rest := [_]) E (c_X13_doWash _ _ _ h) lq_13 cv_X13_doWash ml_X13_283 (by decide) (lmM (by decide)) (fun R => ⟨_, cel_699 tc ad R⟩) rfl rfl rfl (Nat.le_of_ble_eq_true rfl) ⟨Nat.le_of_ble_eq_true rfl, Nat.le_of_ble_eq_true rfl⟩ ⟨Nat.zero_le _, Nat.zero_le _⟩ dX13_wash_7 (fun r3 M2 h => ?_)
  refine ra_callIV (rest := []) E (c_X13_ends _ _ _ h) lq_13 cv_X13_ends ml_X13_260 (by decide) (lmM (by decide)) (fun R => ⟨_, cel_699 tc ad R⟩) rfl rfl rfl (Nat.le_of_ble_eq_true rfl) ⟨Nat.le_of_ble_eq_true rfl, Nat.le_of_ble_eq_true rfl⟩ ⟨Nat.zero_le _, Nat.zero_le _⟩ dX13_wash_10 (fun r5 M4 h => ?_)
  exact ra_iret E hr dX13_wash_13 h
def f_X13_passMinutes (p1 : Int32) (M : TM) (K : Int32 → TM → Prop) : Prop := f_X13_inRange p1 (1 : Int32) (60 : Int32) M (fun r2 M1 => f_X13_lacks r2 M1 (fun r5 M4 => ((r5 = 0 → f_X13_keep M4 (fun M8 => f_X13_doWait p1 M8 (fun r10 M9 => f_X13_ends r10 M9 (fun r12 M11 => K r12 M11)))) ∧ (¬ r5 = 0 → K (0 : Int32) M4))))
set_option maxRecDepth 100000 in
set_option maxHeartbeats 4000000 in
theorem c_X13_passMinutes {ad : Nat → Nat} (p1 : Int32) (M : TM) (K : Int32 → TM → Prop) (h : f_X13_passMinutes p1 M K) : MI yX13_passMinutes cX13_passMinutes 2 (some .int) 9 ad [.ref (ad 699), .int p1] M K := by
  refine MI_of RX13 rfl (by decide +kernel) (Nat.le_of_ble_eq_true rfl) (fun p l e s m below meth c D tc E hr => ?_)
  unfold f_X13_passMinutes at h
  refine ra_aload_n E dX13_passMinutes_0 rfl 0 rfl ?_
  refine ra_iload_n E dX13_passMinutes_1 rfl 1 rfl ?_
  refine ra_iconst E dX13_passMinutes_2 ki_1 ?_
  refine ra_bipush E dX13_passMinutes_3 kb_60 ?_
  refine ra_callIS (rest := [_]) E (c_X13_inRange _ _ _ _ _ h) lq_13 ct_X13_inRange ml_X13_97 (by decide) rfl rfl (Nat.le_of_ble_eq_true rfl) ⟨Nat.le_of_ble_eq_true rfl, Nat.le_of_ble_eq_true rfl⟩ ⟨Nat.zero_le _, Nat.zero_le _⟩ dX13_passMinutes_5 (fun r2 M1 h => ?_)
  obtain ⟨b3, h⟩ := h
  refine ra_callIV (rest := []) E (c_X13_lacks _ _ _ h) lq_13 cv_X13_lacks ml_X13_82 (by decide) (lmM (by decide)) (fun R => ⟨_, cel_699 tc ad R⟩) rfl rfl rfl (Nat.le_of_ble_eq_true rfl) ⟨Nat.le_of_ble_eq_true rfl, Nat.le_of_ble_eq_true rfl⟩ ⟨Nat.zero_le _, Nat.zero_le _⟩ dX13_passMinutes_8 (fun r5 M4 h => ?_)
  obtain ⟨b6, h⟩ := h
  refine ra_if_eq (tgt := 16) E dX13_passMinutes_11 (by decide) (fun q7 => ?_) (fun q7 => ?_)
  · replace h := h.1 q7
    refine ra_aload_n E dX13_passMinutes_16 rfl 0 rfl ?_
    refine ra_callVV (rest := []) E (c_X13_keep _ _ h) lq_13 cv_X13_keep ml_X13_254 (by decide) (lmM (by decide)) (fun R => ⟨_, cel_699 tc ad R⟩) rfl rfl rfl (Nat.le_of_ble_eq_true rfl) ⟨Nat.le_of_ble_eq_true rfl, Nat.le_of_ble_eq_true rfl⟩ ⟨Nat.zero_le _, Nat.zero_le _⟩ dX13_passMinutes_17 (fun M8 h => ?_)
    refine ra_aload_n E dX13_passMinutes_20 rfl 0 rfl ?_
    refine ra_aload_n E dX13_passMinutes_21 rfl 0 rfl ?_
    refine ra_iload_n E dX13_passMinutes_22 rfl 1 rfl ?_
    refine ra_callIV (rest := [_]) E (c_X13_doWait _ _ _ h) lq_13 cv_X13_doWait ml_X13_286 (by decide) (lmM (by decide)) (fun R => ⟨_, cel_699 tc ad R⟩) rfl rfl rfl (Nat.le_of_ble_eq_true rfl) ⟨Nat.le_of_ble_eq_true rfl, Nat.le_of_ble_eq_true rfl⟩ ⟨Nat.zero_le _, Nat.zero_le _⟩ dX13_passMinutes_23 (fun r10 M9 h => ?_)
    refine ra_callIV (rest := []) E (c_X13_ends _ _ _ h) lq_13 cv_X13_ends ml_X13_260 (by decide) (lmM (by decide)) (fun R => ⟨_, cel_699 tc ad R⟩) rfl rfl rfl (Nat.le_of_ble_eq_true rfl) ⟨Nat.le_of_ble_eq_true rfl, Nat.le_of_ble_eq_true rfl⟩ ⟨Nat.zero_le _, Nat.zero_le _⟩ dX13_passMinutes_26 (fun r12 M11 h => ?_)
    exact ra_iret E hr dX13_passMinutes_29 h
  · replace h := h.2 q7
    refine ra_iconst E dX13_passMinutes_14 ki_0 ?_
    exact ra_iret E hr dX13_passMinutes_15 h
def f_X13_write (p1 : Int32) (M : TM) (K : TM → Prop) : Prop := vp_in (M 699 13) 32 ∧ ∀ M2, M2 = u2 M 706 (M 699 13).toNatClampNeg p1 → ∀ M3, M3 = u2 M2 699 13 ((M2 699 13) + (1 : Int32)) → K M3
set_option maxRecDepth 100000 in
set_option maxHeartbeats 4000000 in
theorem c_X13_write {ad : Nat → Nat} (p1 : Int32) (M : TM) (K : TM → Prop) (h : f_X13_write p1 M K) : MV yX13_write cX13_write 2 0 ad [.ref (ad 699), .int p1] M K := by
  refine MV_of RX13 rfl (by decide +kernel) (Nat.le_of_ble_eq_true rfl) (fun p l e s m below meth c D tc E hr => ?_)
  unfold f_X13_write at h
  refine ra_aload_n E dX13_write_0 rfl 0 rfl ?_
  refine gf_X13_12 E lm13 fl_X13_31 dX13_write_1 ?_
  refine ra_aload_n E dX13_write_4 rfl 0 rfl ?_
  refine gf_X13_13 E lm13 fl_X13_289 dX13_write_5 ?_
  refine ra_iload_n E dX13_write_8 rfl 1 rfl ?_
  obtain ⟨g1, h⟩ := h
  refine ra_iast E (lmM (by decide)) (cel_706 tc ad) g1 dX13_write_9 ?_
  replace h := h _ rfl
  refine ra_aload_n E dX13_write_10 rfl 0 rfl ?_
  refine ra_dup E dX13_write_11 rfl ?_
  refine gf_X13_13 E lm13 fl_X13_289 dX13_write_12 ?_
  refine ra_iconst E dX13_write_15 ki_1 ?_
  refine ra_iadd E dX13_write_16 ?_
  refine pf_X13_13 E lm13 fl_X13_289 dX13_write_17 ?_
  replace h := h _ rfl
  exact ra_vret E hr dX13_write_20 h
def f_X13_writeCanal_L12  (K : Int32 → TM → Prop) : Nat → Int32 → TM → Prop
  | 0, _, _ => False
  | n + 1, x1, M => vp_in (M 699 6) 2 ∧ vp_in (1 : Int32) 377 ∧ (((M (700 + (M 699 6).toNatClampNeg) (1 : Int32).toNatClampNeg) ≤ x1 → K (M 699 13) M) ∧ (¬ (M (700 + (M 699 6).toNatClampNeg) (1 : Int32).toNatClampNeg) ≤ x1 → f_X13_countAt x1 M (fun r7 M6 => ((¬ r7 = 0 → f_X13_write ((48 : Int32) + r7) M6 (fun M9 => f_X13_isSection x1 M9 (fun r11 M10 => ((r11 = 0 → f_X13_writeCanal_L12 K n (x1 + 1) M10) ∧ (¬ r11 = 0 → f_X13_whoIsIn x1 M10 (fun r15 M14 => ((r15 = (-1 : Int32) → vp_in (M14 699 6) 2 ∧ vp_in ((10 : Int32) + x1) 377 ∧ (((M14 (700 + (M14 699 6).toNatClampNeg) ((10 : Int32) + x1).toNatClampNeg) ≤ 0 → f_X13_write (45 : Int32) M14 (fun M20 => f_X13_writeCanal_L12 K n (x1 + 1) M20)) ∧ (¬ (M14 (700 + (M14 699 6).toNatClampNeg) ((10 : Int32) + x1).toNatClampNeg) ≤ 0 → f_X13_write (124 : Int32) M14 (fun M21 => f_X13_writeCanal_L12 K n (x1 + 1) M21)))) ∧ (¬ r15 = (-1 : Int32) → f_X13_write (61 : Int32) M14 (fun M22 => f_X13_writeCanal_L12 K n (x1 + 1) M22))))))))) ∧ (r7 = 0 → f_X13_write (46 : Int32) M6 (fun M23 => f_X13_isSection x1 M23 (fun r25 M24 => ((r25 = 0 → f_X13_writeCanal_L12 K n (x1 + 1) M24) ∧ (¬ r25 = 0 → f_X13_whoIsIn x1 M24 (fun r29 M28 => ((r29 = (-1 : Int32) → vp_in (M28 699 6) 2 ∧ vp_in ((10 : Int32) + x1) 377 ∧ (((M28 (700 + (M28 699 6).toNatClampNeg) ((10 : Int32) + x1).toNatClampNeg) ≤ 0 → f_X13_write (45 : Int32) M28 (fun M34 => f_X13_writeCanal_L12 K n (x1 + 1) M34)) ∧ (¬ (M28 (700 + (M28 699 6).toNatClampNeg) ((10 : Int32) + x1).toNatClampNeg) ≤ 0 → f_X13_write (124 : Int32) M28 (fun M35 => f_X13_writeCanal_L12 K n (x1 + 1) M35)))) ∧ (¬ r29 = (-1 : Int32) → f_X13_write (61 : Int32) M28 (fun M36 => f_X13_writeCanal_L12 K n (x1 + 1) M36)))))))))))))
set_option maxRecDepth 100000 in
set_option maxHeartbeats 4000000 in
theorem l_X13_writeCanal_L12 {p : Program} {l : Launch} {e : Env} {s : State} {m : MethodId} {args : Array Value} {below : List Frame} {meth : Method} {c : Code} {D : va_G} {tc : Nat → ClassId} {ad : Nat → Nat}  {K : Int32 → TM → Prop} (E : Ev p s m args meth c D tc ad RX13 cX13_writeCanal 3) (hr : meth.sig.returnType = (some .int)) : ∀ (n : Nat) (x1 : Int32) (M : TM) , f_X13_writeCanal_L12  K n x1 M → Wa p l e (rmD 4) s m args below meth c 0 0 (MQ below (va_Qi K (EndW D tc ad) (A0 ad s.heap.size)) args s 0 0 (A0 ad s.heap.size)) D tc ad 3 M 12 [(0, .ref (ad 699)), (1, .int x1)] [] := by
  intro n
  induction n with
  | zero => intro x1 M  h; exact h.elim
  | succ n ih =>
    intro x1 M  h
    unfold f_X13_writeCanal_L12 at h
    refine ra_iload_n E dX13_writeCanal_12 rfl 1 rfl ?_
    refine ra_aload_n E dX13_writeCanal_13 rfl 0 rfl ?_
    obtain ⟨g3, h⟩ := h
    refine gf_X13_6 E lm13 fl_X13_28 dX13_writeCanal_14 ?_
    refine ra_iconst E dX13_writeCanal_17 ki_1 ?_
    obtain ⟨g4, h⟩ := h
    refine ra_iald E (lmM (isRow_of g3).lt) (cel_row tc ad (isRow_of g3)) g4 dX13_writeCanal_18 ?_
    refine ra_icmp_ge (tgt := 96) E dX13_writeCanal_19 (by decide) (fun q5 => ?_) (fun q5 => ?_)
    · replace h := h.1 q5
      refine ra_aload_n E dX13_writeCanal_96 rfl 0 rfl ?_
      refine gf_X13_13 E lm13 fl_X13_289 dX13_writeCanal_97 ?_
      exact ra_iret E hr dX13_writeCanal_100 h
    · replace h := h.2 q5
      refine ra_aload_n E dX13_writeCanal_22 rfl 0 rfl ?_
      refine ra_iload_n E dX13_writeCanal_23 rfl 1 rfl ?_
      refine ra_callIV (rest := []) E (c_X13_countAt _ _ _ h) lq_13 cv_X13_countAt ml_X13_134 (by decide) (lmM (by decide)) (fun R => ⟨_, cel_699 tc ad R⟩) rfl rfl rfl (Nat.le_of_ble_eq_true rfl) ⟨Nat.le_of_ble_eq_true rfl, Nat.le_of_ble_eq_true rfl⟩ ⟨Nat.zero_le _, Nat.zero_le _⟩ dX13_writeCanal_24 (fun r7 M6 h => ?_)
      refine ra_istore_n (L' := [(2, _), (0, _), (1, _)]) E dX13_writeCanal_27 rfl (by decide) rfl ?_
      refine ra_aload_n E dX13_writeCanal_28 rfl 1 rfl ?_
      refine ra_iload_n E dX13_writeCanal_29 rfl 0 rfl ?_
      refine ra_if_ne (tgt := 38) E dX13_writeCanal_30 (by decide) (fun q8 => ?_) (fun q8 => ?_)
      · replace h := h.1 q8
        refine ra_bipush E dX13_writeCanal_38 kb_48 ?_
        refine ra_iload_n E dX13_writeCanal_40 rfl 0 rfl ?_
        refine ra_iadd E dX13_writeCanal_41 ?_
        refine ra_callVV (rest := []) E (c_X13_write _ _ _ h) lq_13 cv_X13_write ml_X13_292 (by decide) (lmM (by decide)) (fun R => ⟨_, cel_699 tc ad R⟩) rfl rfl rfl (Nat.le_of_ble_eq_true rfl) ⟨Nat.le_of_ble_eq_true rfl, Nat.le_of_ble_eq_true rfl⟩ ⟨Nat.zero_le _, Nat.zero_le _⟩ dX13_writeCanal_42 (fun M9 h => ?_)
        refine ra_aload_n E dX13_writeCanal_45 rfl 1 rfl ?_
        refine ra_iload_n E dX13_writeCanal_46 rfl 2 rfl ?_
        refine ra_callIV (rest := []) E (c_X13_isSection _ _ _ h) lq_13 cv_X13_isSection ml_X13_125 (by decide) (lmM (by decide)) (fun R => ⟨_, cel_699 tc ad R⟩) rfl rfl rfl (Nat.le_of_ble_eq_true rfl) ⟨Nat.le_of_ble_eq_true rfl, Nat.le_of_ble_eq_true rfl⟩ ⟨Nat.zero_le _, Nat.zero_le _⟩ dX13_writeCanal_47 (fun r11 M10 h => ?_)
        obtain ⟨b12, h⟩ := h
        refine ra_if_eq (tgt := 90) E dX13_writeCanal_50 (by decide) (fun q13 => ?_) (fun q13 => ?_)
        · replace h := h.1 q13
          refine ra_iinc1 (L' := [(1, _), (2, _), (0, _)]) E dX13_writeCanal_90 2 rfl (by decide) rfl ?_
          refine ra_goto (tgt := 12) E dX13_writeCanal_93 (by decide) ?_
          exact ra_sub (L' := [(0, _), (1, _)]) [2, 0] rfl (ih _ _ h)
        · replace h := h.2 q13
          refine ra_aload_n E dX13_writeCanal_53 rfl 1 rfl ?_
          refine ra_aload_n E dX13_writeCanal_54 rfl 1 rfl ?_
          refine ra_iload_n E dX13_writeCanal_55 rfl 2 rfl ?_
          refine ra_callIV (rest := [_]) E (c_X13_whoIsIn _ _ _ h) lq_13 cv_X13_whoIsIn ml_X13_128 (by decide) (lmM (by decide)) (fun R => ⟨_, cel_699 tc ad R⟩) rfl rfl rfl (Nat.le_of_ble_eq_true rfl) ⟨Nat.le_of_ble_eq_true rfl, Nat.le_of_ble_eq_true rfl⟩ ⟨Nat.zero_le _, Nat.zero_le _⟩ dX13_writeCanal_56 (fun r15 M14 h => ?_)
          refine ra_iconst E dX13_writeCanal_59 ki_m1 ?_
          refine ra_icmp_eq (tgt := 68) E dX13_writeCanal_60 (by decide) (fun q16 => ?_) (fun q16 => ?_)
          · replace h := h.1 q16
            refine ra_aload_n E dX13_writeCanal_68 rfl 1 rfl ?_
            obtain ⟨g17, h⟩ := h
            refine gf_X13_6 E lm13 fl_X13_28 dX13_writeCanal_69 ?_
            refine ra_bipush E dX13_writeCanal_72 kb_10 ?_
            refine ra_iload_n E dX13_writeCanal_74 rfl 2 rfl ?_
            refine ra_iadd E dX13_writeCanal_75 ?_
            obtain ⟨g18, h⟩ := h
            refine ra_iald E (lmM (isRow_of g17).lt) (cel_row tc ad (isRow_of g17)) g18 dX13_writeCanal_76 ?_
            refine ra_if_le (tgt := 85) E dX13_writeCanal_77 (by decide) (fun q19 => ?_) (fun q19 => ?_)
            · replace h := h.1 q19
              refine ra_bipush E dX13_writeCanal_85 kb_45 ?_
              refine ra_callVV (rest := []) E (c_X13_write _ _ _ h) lq_13 cv_X13_write ml_X13_292 (by decide) (lmM (by decide)) (fun R => ⟨_, cel_699 tc ad R⟩) rfl rfl rfl (Nat.le_of_ble_eq_true rfl) ⟨Nat.le_of_ble_eq_true rfl, Nat.le_of_ble_eq_true rfl⟩ ⟨Nat.zero_le _, Nat.zero_le _⟩ dX13_writeCanal_87 (fun M20 h => ?_)
              refine ra_iinc1 (L' := [(1, _), (2, _), (0, _)]) E dX13_writeCanal_90 2 rfl (by decide) rfl ?_
              refine ra_goto (tgt := 12) E dX13_writeCanal_93 (by decide) ?_
              exact ra_sub (L' := [(0, _), (1, _)]) [2, 0] rfl (ih _ _ h)
            · replace h := h.2 q19
              refine ra_bipush E dX13_writeCanal_80 kb_124 ?_
              refine ra_goto (tgt := 87) E dX13_writeCanal_82 (by decide) ?_
              refine ra_callVV (rest := []) E (c_X13_write _ _ _ h) lq_13 cv_X13_write ml_X13_292 (by decide) (lmM (by decide)) (fun R => ⟨_, cel_699 tc ad R⟩) rfl rfl rfl (Nat.le_of_ble_eq_true rfl) ⟨Nat.le_of_ble_eq_true rfl, Nat.le_of_ble_eq_true rfl⟩ ⟨Nat.zero_le _, Nat.zero_le _⟩ dX13_writeCanal_87 (fun M21 h => ?_)
              refine ra_iinc1 (L' := [(1, _), (2, _), (0, _)]) E dX13_writeCanal_90 2 rfl (by decide) rfl ?_
              refine ra_goto (tgt := 12) E dX13_writeCanal_93 (by decide) ?_
              exact ra_sub (L' := [(0, _), (1, _)]) [2, 0] rfl (ih _ _ h)
          · replace h := h.2 q16
            refine ra_bipush E dX13_writeCanal_63 kb_61 ?_
            refine ra_goto (tgt := 87) E dX13_writeCanal_65 (by decide) ?_
            refine ra_callVV (rest := []) E (c_X13_write _ _ _ h) lq_13 cv_X13_write ml_X13_292 (by decide) (lmM (by decide)) (fun R => ⟨_, cel_699 tc ad R⟩) rfl rfl rfl (Nat.le_of_ble_eq_true rfl) ⟨Nat.le_of_ble_eq_true rfl, Nat.le_of_ble_eq_true rfl⟩ ⟨Nat.zero_le _, Nat.zero_le _⟩ dX13_writeCanal_87 (fun M22 h => ?_)
            refine ra_iinc1 (L' := [(1, _), (2, _), (0, _)]) E dX13_writeCanal_90 2 rfl (by decide) rfl ?_
            refine ra_goto (tgt := 12) E dX13_writeCanal_93 (by decide) ?_
            exact ra_sub (L' := [(0, _), (1, _)]) [2, 0] rfl (ih _ _ h)
      · replace h := h.2 q8
        refine ra_bipush E dX13_writeCanal_33 kb_46 ?_
        refine ra_goto (tgt := 42) E dX13_writeCanal_35 (by decide) ?_
        refine ra_callVV (rest := []) E (c_X13_write _ _ _ h) lq_13 cv_X13_write ml_X13_292 (by decide) (lmM (by decide)) (fun R => ⟨_, cel_699 tc ad R⟩) rfl rfl rfl (Nat.le_of_ble_eq_true rfl) ⟨Nat.le_of_ble_eq_true rfl, Nat.le_of_ble_eq_true rfl⟩ ⟨Nat.zero_le _, Nat.zero_le _⟩ dX13_writeCanal_42 (fun M23 h => ?_)
        refine ra_aload_n E dX13_writeCanal_45 rfl 1 rfl ?_
        refine ra_iload_n E dX13_writeCanal_46 rfl 2 rfl ?_
        refine ra_callIV (rest := []) E (c_X13_isSection _ _ _ h) lq_13 cv_X13_isSection ml_X13_125 (by decide) (lmM (by decide)) (fun R => ⟨_, cel_699 tc ad R⟩) rfl rfl rfl (Nat.le_of_ble_eq_true rfl) ⟨Nat.le_of_ble_eq_true rfl, Nat.le_of_ble_eq_true rfl⟩ ⟨Nat.zero_le _, Nat.zero_le _⟩ dX13_writeCanal_47 (fun r25 M24 h => ?_)
        obtain ⟨b26, h⟩ := h
        refine ra_if_eq (tgt := 90) E dX13_writeCanal_50 (by decide) (fun q27 => ?_) (fun q27 => ?_)
        · replace h := h.1 q27
          refine ra_iinc1 (L' := [(1, _), (2, _), (0, _)]) E dX13_writeCanal_90 2 rfl (by decide) rfl ?_
          refine ra_goto (tgt := 12) E dX13_writeCanal_93 (by decide) ?_
          exact ra_sub (L' := [(0, _), (1, _)]) [2, 0] rfl (ih _ _ h)
        · replace h := h.2 q27
          refine ra_aload_n E dX13_writeCanal_53 rfl 1 rfl ?_
          refine ra_aload_n E dX13_writeCanal_54 rfl 1 rfl ?_
          refine ra_iload_n E dX13_writeCanal_55 rfl 2 rfl ?_
          refine ra_callIV (rest := [_]) E (c_X13_whoIsIn _ _ _ h) lq_13 cv_X13_whoIsIn ml_X13_128 (by decide) (lmM (by decide)) (fun R => ⟨_, cel_699 tc ad R⟩) rfl rfl rfl (Nat.le_of_ble_eq_true rfl) ⟨Nat.le_of_ble_eq_true rfl, Nat.le_of_ble_eq_true rfl⟩ ⟨Nat.zero_le _, Nat.zero_le _⟩ dX13_writeCanal_56 (fun r29 M28 h => ?_)
          refine ra_iconst E dX13_writeCanal_59 ki_m1 ?_
          refine ra_icmp_eq (tgt := 68) E dX13_writeCanal_60 (by decide) (fun q30 => ?_) (fun q30 => ?_)
          · replace h := h.1 q30
            refine ra_aload_n E dX13_writeCanal_68 rfl 1 rfl ?_
            obtain ⟨g31, h⟩ := h
            refine gf_X13_6 E lm13 fl_X13_28 dX13_writeCanal_69 ?_
            refine ra_bipush E dX13_writeCanal_72 kb_10 ?_
            refine ra_iload_n E dX13_writeCanal_74 rfl 2 rfl ?_
            refine ra_iadd E dX13_writeCanal_75 ?_
            obtain ⟨g32, h⟩ := h
            refine ra_iald E (lmM (isRow_of g31).lt) (cel_row tc ad (isRow_of g31)) g32 dX13_writeCanal_76 ?_
            refine ra_if_le (tgt := 85) E dX13_writeCanal_77 (by decide) (fun q33 => ?_) (fun q33 => ?_)
            · replace h := h.1 q33
              refine ra_bipush E dX13_writeCanal_85 kb_45 ?_
              refine ra_callVV (rest := []) E (c_X13_write _ _ _ h) lq_13 cv_X13_write ml_X13_292 (by decide) (lmM (by decide)) (fun R => ⟨_, cel_699 tc ad R⟩) rfl rfl rfl (Nat.le_of_ble_eq_true rfl) ⟨Nat.le_of_ble_eq_true rfl, Nat.le_of_ble_eq_true rfl⟩ ⟨Nat.zero_le _, Nat.zero_le _⟩ dX13_writeCanal_87 (fun M34 h => ?_)
              refine ra_iinc1 (L' := [(1, _), (2, _), (0, _)]) E dX13_writeCanal_90 2 rfl (by decide) rfl ?_
              refine ra_goto (tgt := 12) E dX13_writeCanal_93 (by decide) ?_
              exact ra_sub (L' := [(0, _), (1, _)]) [2, 0] rfl (ih _ _ h)
            · replace h := h.2 q33
              refine ra_bipush E dX13_writeCanal_80 kb_124 ?_
              refine ra_goto (tgt := 87) E dX13_writeCanal_82 (by decide) ?_
              refine ra_callVV (rest := []) E (c_X13_write _ _ _ h) lq_13 cv_X13_write ml_X13_292 (by decide) (lmM (by decide)) (fun R => ⟨_, cel_699 tc ad R⟩) rfl rfl rfl (Nat.le_of_ble_eq_true rfl) ⟨Nat.le_of_ble_eq_true rfl, Nat.le_of_ble_eq_true rfl⟩ ⟨Nat.zero_le _, Nat.zero_le _⟩ dX13_writeCanal_87 (fun M35 h => ?_)
              refine ra_iinc1 (L' := [(1, _), (2, _), (0, _)]) E dX13_writeCanal_90 2 rfl (by decide) rfl ?_
              refine ra_goto (tgt := 12) E dX13_writeCanal_93 (by decide) ?_
              exact ra_sub (L' := [(0, _), (1, _)]) [2, 0] rfl (ih _ _ h)
          · replace h := h.2 q30
            refine ra_bipush E dX13_writeCanal_63 kb_61 ?_
            refine ra_goto (tgt := 87) E dX13_writeCanal_65 (by decide) ?_
            refine ra_callVV (rest := []) E (c_X13_write _ _ _ h) lq_13 cv_X13_write ml_X13_292 (by decide) (lmM (by decide)) (fun R => ⟨_, cel_699 tc ad R⟩) rfl rfl rfl (Nat.le_of_ble_eq_true rfl) ⟨Nat.le_of_ble_eq_true rfl, Nat.le_of_ble_eq_true rfl⟩ ⟨Nat.zero_le _, Nat.zero_le _⟩ dX13_writeCanal_87 (fun M36 h => ?_)
            refine ra_iinc1 (L' := [(1, _), (2, _), (0, _)]) E dX13_writeCanal_90 2 rfl (by decide) rfl ?_
            refine ra_goto (tgt := 12) E dX13_writeCanal_93 (by decide) ?_
            exact ra_sub (L' := [(0, _), (1, _)]) [2, 0] rfl (ih _ _ h)
def f_X13_writeCanal  (M : TM) (K : Int32 → TM → Prop) : Prop := ∀ M1, M1 = u2 M 699 8 (0 : Int32) → ∀ M2, M2 = u2 M1 699 13 (0 : Int32) → ∃ n, f_X13_writeCanal_L12 K n (0 : Int32) M2
set_option maxRecDepth 100000 in
set_option maxHeartbeats 4000000 in
theorem c_X13_writeCanal {ad : Nat → Nat}  (M : TM) (K : Int32 → TM → Prop) (h : f_X13_writeCanal  M K) : MI yX13_writeCanal cX13_writeCanal 3 (some .int) 4 ad [.ref (ad 699)] M K := by
  refine MI_of RX13 rfl (by decide +kernel) (Nat.le_of_ble_eq_true rfl) (fun p l e s m below meth c D tc E hr => ?_)
  unfold f_X13_writeCanal at h
  refine ra_aload_n E dX13_writeCanal_0 rfl 0 rfl ?_
  refine ra_iconst E dX13_writeCanal_1 ki_0 ?_
  refine pf_X13_8 E lm13 fl_X13_79 dX13_writeCanal_2 ?_
  replace h := h _ rfl
  refine ra_aload_n E dX13_writeCanal_5 rfl 0 rfl ?_
  refine ra_iconst E dX13_writeCanal_6 ki_0 ?_
  refine pf_X13_13 E lm13 fl_X13_289 dX13_writeCanal_7 ?_
  replace h := h _ rfl
  refine ra_iconst E dX13_writeCanal_10 ki_0 ?_
  refine ra_istore_n (L' := [(1, _), (0, _)]) E dX13_writeCanal_11 rfl (by decide) rfl ?_
  obtain ⟨n37, h⟩ := h
  exact ra_sub (L' := [(0, _), (1, _)]) [1, 0] rfl (l_X13_writeCanal_L12 E hr n37 _ _ h)
def f_X13_outputByte (p1 : Int32) (M : TM) (K : Int32 → TM → Prop) : Prop := f_X13_inRange p1 (0 : Int32) ((M 699 13) - (1 : Int32)) M (fun r2 M1 => f_X13_lacks r2 M1 (fun r5 M4 => ((r5 = 0 → vp_in p1 32 ∧ K (M4 706 p1.toNatClampNeg) M4) ∧ (¬ r5 = 0 → K (0 : Int32) M4))))
set_option maxRecDepth 100000 in
set_option maxHeartbeats 4000000 in
theorem c_X13_outputByte {ad : Nat → Nat} (p1 : Int32) (M : TM) (K : Int32 → TM → Prop) (h : f_X13_outputByte p1 M K) : MI yX13_outputByte cX13_outputByte 2 (some .int) 1 ad [.ref (ad 699), .int p1] M K := by
  refine MI_of RX13 rfl (by decide +kernel) (Nat.le_of_ble_eq_true rfl) (fun p l e s m below meth c D tc E hr => ?_)
  unfold f_X13_outputByte at h
  refine ra_aload_n E dX13_outputByte_0 rfl 0 rfl ?_
  refine ra_iload_n E dX13_outputByte_1 rfl 1 rfl ?_
  refine ra_iconst E dX13_outputByte_2 ki_0 ?_
  refine ra_aload_n E dX13_outputByte_3 rfl 0 rfl ?_
  refine gf_X13_13 E lm13 fl_X13_289 dX13_outputByte_4 ?_
  refine ra_iconst E dX13_outputByte_7 ki_1 ?_
  refine ra_isub E dX13_outputByte_8 ?_
  refine ra_callIS (rest := [_]) E (c_X13_inRange _ _ _ _ _ h) lq_13 ct_X13_inRange ml_X13_97 (by decide) rfl rfl (Nat.le_of_ble_eq_true rfl) ⟨Nat.le_of_ble_eq_true rfl, Nat.le_of_ble_eq_true rfl⟩ ⟨Nat.zero_le _, Nat.zero_le _⟩ dX13_outputByte_9 (fun r2 M1 h => ?_)
  obtain ⟨b3, h⟩ := h
  refine ra_callIV (rest := []) E (c_X13_lacks _ _ _ h) lq_13 cv_X13_lacks ml_X13_82 (by decide) (lmM (by decide)) (fun R => ⟨_, cel_699 tc ad R⟩) rfl rfl rfl (Nat.le_of_ble_eq_true rfl) ⟨Nat.le_of_ble_eq_true rfl, Nat.le_of_ble_eq_true rfl⟩ ⟨Nat.zero_le _, Nat.zero_le _⟩ dX13_outputByte_12 (fun r5 M4 h => ?_)
  obtain ⟨b6, h⟩ := h
  refine ra_if_eq (tgt := 22) E dX13_outputByte_15 (by decide) (fun q7 => ?_) (fun q7 => ?_)
  · replace h := h.1 q7
    refine ra_aload_n E dX13_outputByte_22 rfl 0 rfl ?_
    refine gf_X13_12 E lm13 fl_X13_31 dX13_outputByte_23 ?_
    refine ra_iload_n E dX13_outputByte_26 rfl 1 rfl ?_
    obtain ⟨g8, h⟩ := h
    refine ra_iald E (lmM (by decide)) (cel_706 tc ad) g8 dX13_outputByte_27 ?_
    exact ra_iret E hr dX13_outputByte_28 h
  · replace h := h.2 q7
    refine ra_iconst E dX13_outputByte_18 ki_0 ?_
    refine ra_goto (tgt := 28) E dX13_outputByte_19 (by decide) ?_
    exact ra_iret E hr dX13_outputByte_28 h
def f_X13_undoableCount  (M : TM) (K : Int32 → TM → Prop) : Prop := ∀ M1, M1 = u2 M 699 8 (0 : Int32) → K (M1 699 7) M1
set_option maxRecDepth 100000 in
set_option maxHeartbeats 4000000 in
theorem c_X13_undoableCount {ad : Nat → Nat}  (M : TM) (K : Int32 → TM → Prop) (h : f_X13_undoableCount  M K) : MI yX13_undoableCount cX13_undoableCount 1 (some .int) 0 ad [.ref (ad 699)] M K := by
  refine MI_of RX13 rfl (by decide +kernel) (Nat.le_of_ble_eq_true rfl) (fun p l e s m below meth c D tc E hr => ?_)
  unfold f_X13_undoableCount at h
  refine ra_aload_n E dX13_undoableCount_0 rfl 0 rfl ?_
  refine ra_iconst E dX13_undoableCount_1 ki_0 ?_
  refine pf_X13_8 E lm13 fl_X13_79 dX13_undoableCount_2 ?_
  replace h := h _ rfl
  refine ra_aload_n E dX13_undoableCount_5 rfl 0 rfl ?_
  refine gf_X13_7 E lm13 fl_X13_248 dX13_undoableCount_6 ?_
  exact ra_iret E hr dX13_undoableCount_9 h
def f_X13_undo_L13  (K : Int32 → TM → Prop) (z0 : Int32) (M : TM) : Prop := f_X13_lacks z0 M (fun r3 M2 => ((r3 = 0 → ∀ M6, M6 = u2 M2 699 7 ((M2 699 7) - (1 : Int32)) → f_X13_copy 705 3016 (M6 699 7) 700 377 (0 : Int32) M6 (fun M7 => K (M7 699 7) M7)) ∧ (¬ r3 = 0 → K (0 : Int32) M2)))
set_option maxRecDepth 100000 in
set_option maxHeartbeats 4000000 in
theorem l_X13_undo_L13 {p : Program} {l : Launch} {e : Env} {s : State} {m : MethodId} {args : Array Value} {below : List Frame} {meth : Method} {c : Code} {D : va_G} {tc : Nat → ClassId} {ad : Nat → Nat}  {K : Int32 → TM → Prop} (E : Ev p s m args meth c D tc ad RX13 cX13_undo 1) (hr : meth.sig.returnType = (some .int)) : ∀ (z0 : Int32) (M : TM) , f_X13_undo_L13  K z0 M → Wa p l e (rmD 2) s m args below meth c 0 0 (MQ below (va_Qi K (EndW D tc ad) (A0 ad s.heap.size)) args s 0 0 (A0 ad s.heap.size)) D tc ad 1 M 13 [(0, .ref (ad 699))] [.int z0, .ref (ad 699)] := by
  intro z0 M  h
  unfold f_X13_undo_L13 at h
  refine ra_callIV (rest := []) E (c_X13_lacks _ _ _ h) lq_13 cv_X13_lacks ml_X13_82 (by decide) (lmM (by decide)) (fun R => ⟨_, cel_699 tc ad R⟩) rfl rfl rfl (Nat.le_of_ble_eq_true rfl) ⟨Nat.le_of_ble_eq_true rfl, Nat.le_of_ble_eq_true rfl⟩ ⟨Nat.zero_le _, Nat.zero_le _⟩ dX13_undo_13 (fun r3 M2 h => ?_)
  obtain ⟨b4, h⟩ := h
  refine ra_if_eq (tgt := 21) E dX13_undo_16 (by decide) (fun q5 => ?_) (fun q5 => ?_)
  · replace h := h.1 q5
    refine ra_aload_n E dX13_undo_21 rfl 0 rfl ?_
    refine ra_dup E dX13_undo_22 rfl ?_
    refine gf_X13_7 E lm13 fl_X13_248 dX13_undo_23 ?_
    refine ra_iconst E dX13_undo_26 ki_1 ?_
    refine ra_isub E dX13_undo_27 ?_
    refine pf_X13_7 E lm13 fl_X13_248 dX13_undo_28 ?_
    replace h := h _ rfl
    refine ra_aload_n E dX13_undo_31 rfl 0 rfl ?_
    refine gf_X13_5 E lm13 fl_X13_25 dX13_undo_32 ?_
    refine ra_aload_n E dX13_undo_35 rfl 0 rfl ?_
    refine gf_X13_7 E lm13 fl_X13_248 dX13_undo_36 ?_
    refine ra_aload_n E dX13_undo_39 rfl 0 rfl ?_
    refine gf_X13_0 E lm13 fl_X13_9 dX13_undo_40 ?_
    refine ra_iconst E dX13_undo_43 ki_0 ?_
    refine ra_callVS (rest := []) E (c_X13_copy _ _ (⟨(by decide), fun tc ad => (cel_705 tc ad)⟩) _ _ _ (⟨(by decide), fun tc ad => (cel_700 tc ad)⟩) _ _ _ h) lq_13 ct_X13_copy ml_X13_229 (by decide) rfl rfl (Nat.le_of_ble_eq_true rfl) ⟨Nat.le_of_ble_eq_true rfl, Nat.le_of_ble_eq_true rfl⟩ ⟨Nat.zero_le _, Nat.zero_le _⟩ dX13_undo_44 (fun M7 h => ?_)
    refine ra_aload_n E dX13_undo_47 rfl 0 rfl ?_
    refine gf_X13_7 E lm13 fl_X13_248 dX13_undo_48 ?_
    exact ra_iret E hr dX13_undo_51 h
  · replace h := h.2 q5
    refine ra_iconst E dX13_undo_19 ki_0 ?_
    exact ra_iret E hr dX13_undo_20 h
def f_X13_undo  (M : TM) (K : Int32 → TM → Prop) : Prop := (((M 699 7) ≤ 0 → f_X13_undo_L13 K (0 : Int32) M) ∧ (¬ (M 699 7) ≤ 0 → f_X13_undo_L13 K (1 : Int32) M))
set_option maxRecDepth 100000 in
set_option maxHeartbeats 4000000 in
theorem c_X13_undo {ad : Nat → Nat}  (M : TM) (K : Int32 → TM → Prop) (h : f_X13_undo  M K) : MI yX13_undo cX13_undo 1 (some .int) 2 ad [.ref (ad 699)] M K := by
  refine MI_of RX13 rfl (by decide +kernel) (Nat.le_of_ble_eq_true rfl) (fun p l e s m below meth c D tc E hr => ?_)
  unfold f_X13_undo at h
  refine ra_aload_n E dX13_undo_0 rfl 0 rfl ?_
  refine ra_aload_n E dX13_undo_1 rfl 0 rfl ?_
  refine gf_X13_7 E lm13 fl_X13_248 dX13_undo_2 ?_
  refine ra_if_le (tgt := 12) E dX13_undo_5 (by decide) (fun q1 => ?_) (fun q1 => ?_)
  · replace h := h.1 q1
    refine ra_iconst E dX13_undo_12 ki_0 ?_
    exact ra_sub (L' := [(0, _)]) [0] rfl (l_X13_undo_L13 E hr _ _ h)
  · replace h := h.2 q1
    refine ra_iconst E dX13_undo_8 ki_1 ?_
    refine ra_goto (tgt := 13) E dX13_undo_9 (by decide) ?_
    exact ra_sub (L' := [(0, _)]) [0] rfl (l_X13_undo_L13 E hr _ _ h)
def f_X13_saveSnapshot  (M : TM) (K : TM → Prop) : Prop := ∀ M1, M1 = u2 M 699 8 (0 : Int32) → f_X13_copy 700 377 (0 : Int32) 704 377 (0 : Int32) M1 (fun M2 => ∀ M3, M3 = u2 M2 699 11 (1 : Int32) → K M3)
set_option maxRecDepth 100000 in
set_option maxHeartbeats 4000000 in
theorem c_X13_saveSnapshot {ad : Nat → Nat}  (M : TM) (K : TM → Prop) (h : f_X13_saveSnapshot  M K) : MV yX13_saveSnapshot cX13_saveSnapshot 1 2 ad [.ref (ad 699)] M K := by
  refine MV_of RX13 rfl (by decide +kernel) (Nat.le_of_ble_eq_true rfl) (fun p l e s m below meth c D tc E hr => ?_)
  unfold f_X13_saveSnapshot at h
  refine ra_aload_n E dX13_saveSnapshot_0 rfl 0 rfl ?_
  refine ra_iconst E dX13_saveSnapshot_1 ki_0 ?_
  refine pf_X13_8 E lm13 fl_X13_79 dX13_saveSnapshot_2 ?_
  replace h := h _ rfl
  refine ra_aload_n E dX13_saveSnapshot_5 rfl 0 rfl ?_
  refine gf_X13_0 E lm13 fl_X13_9 dX13_saveSnapshot_6 ?_
  refine ra_iconst E dX13_saveSnapshot_9 ki_0 ?_
  refine ra_aload_n E dX13_saveSnapshot_10 rfl 0 rfl ?_
  refine gf_X13_4 E lm13 fl_X13_22 dX13_saveSnapshot_11 ?_
  refine ra_iconst E dX13_saveSnapshot_14 ki_0 ?_
  refine ra_callVS (rest := []) E (c_X13_copy _ _ (⟨(by decide), fun tc ad => (cel_700 tc ad)⟩) _ _ _ (⟨(by decide), fun tc ad => (cel_704 tc ad)⟩) _ _ _ h) lq_13 ct_X13_copy ml_X13_229 (by decide) rfl rfl (Nat.le_of_ble_eq_true rfl) ⟨Nat.le_of_ble_eq_true rfl, Nat.le_of_ble_eq_true rfl⟩ ⟨Nat.zero_le _, Nat.zero_le _⟩ dX13_saveSnapshot_15 (fun M2 h => ?_)
  refine ra_aload_n E dX13_saveSnapshot_18 rfl 0 rfl ?_
  refine ra_iconst E dX13_saveSnapshot_19 ki_1 ?_
  refine pf_X13_11 E lm13 fl_X13_295 (by decide) dX13_saveSnapshot_20 ?_
  replace h := h _ rfl
  exact ra_vret E hr dX13_saveSnapshot_23 h
def f_X13_restoreSnapshot  (M : TM) (K : Int32 → TM → Prop) : Prop := f_X13_lacks (bz (M 699 11)) M (fun r2 M1 => ((r2 = 0 → f_X13_copy 704 377 (0 : Int32) 700 377 (0 : Int32) M1 (fun M5 => ∀ M6, M6 = u2 M5 699 7 (0 : Int32) → vp_in (M6 699 6) 2 ∧ vp_in (0 : Int32) 377 ∧ K (M6 (700 + (M6 699 6).toNatClampNeg) (0 : Int32).toNatClampNeg) M6)) ∧ (¬ r2 = 0 → K (0 : Int32) M1)))
set_option maxRecDepth 100000 in
set_option maxHeartbeats 4000000 in
theorem c_X13_restoreSnapshot {ad : Nat → Nat}  (M : TM) (K : Int32 → TM → Prop) (h : f_X13_restoreSnapshot  M K) : MI yX13_restoreSnapshot cX13_restoreSnapshot 1 (some .int) 2 ad [.ref (ad 699)] M K := by
  refine MI_of RX13 rfl (by decide +kernel) (Nat.le_of_ble_eq_true rfl) (fun p l e s m below meth c D tc E hr => ?_)
  unfold f_X13_restoreSnapshot at h
  refine ra_aload_n E dX13_restoreSnapshot_0 rfl 0 rfl ?_
  refine ra_aload_n E dX13_restoreSnapshot_1 rfl 0 rfl ?_
  refine gf_X13_11 E lm13 fl_X13_295 dX13_restoreSnapshot_2 ?_
  refine ra_callIV (rest := []) E (c_X13_lacks _ _ _ h) lq_13 cv_X13_lacks ml_X13_82 (by decide) (lmM (by decide)) (fun R => ⟨_, cel_699 tc ad R⟩) rfl rfl rfl (Nat.le_of_ble_eq_true rfl) ⟨Nat.le_of_ble_eq_true rfl, Nat.le_of_ble_eq_true rfl⟩ ⟨Nat.zero_le _, Nat.zero_le _⟩ dX13_restoreSnapshot_5 (fun r2 M1 h => ?_)
  obtain ⟨b3, h⟩ := h
  refine ra_if_eq (tgt := 13) E dX13_restoreSnapshot_8 (by decide) (fun q4 => ?_) (fun q4 => ?_)
  · replace h := h.1 q4
    refine ra_aload_n E dX13_restoreSnapshot_13 rfl 0 rfl ?_
    refine gf_X13_4 E lm13 fl_X13_22 dX13_restoreSnapshot_14 ?_
    refine ra_iconst E dX13_restoreSnapshot_17 ki_0 ?_
    refine ra_aload_n E dX13_restoreSnapshot_18 rfl 0 rfl ?_
    refine gf_X13_0 E lm13 fl_X13_9 dX13_restoreSnapshot_19 ?_
    refine ra_iconst E dX13_restoreSnapshot_22 ki_0 ?_
    refine ra_callVS (rest := []) E (c_X13_copy _ _ (⟨(by decide), fun tc ad => (cel_704 tc ad)⟩) _ _ _ (⟨(by decide), fun tc ad => (cel_700 tc ad)⟩) _ _ _ h) lq_13 ct_X13_copy ml_X13_229 (by decide) rfl rfl (Nat.le_of_ble_eq_true rfl) ⟨Nat.le_of_ble_eq_true rfl, Nat.le_of_ble_eq_true rfl⟩ ⟨Nat.zero_le _, Nat.zero_le _⟩ dX13_restoreSnapshot_23 (fun M5 h => ?_)
    refine ra_aload_n E dX13_restoreSnapshot_26 rfl 0 rfl ?_
    refine ra_iconst E dX13_restoreSnapshot_27 ki_0 ?_
    refine pf_X13_7 E lm13 fl_X13_248 dX13_restoreSnapshot_28 ?_
    replace h := h _ rfl
    refine ra_aload_n E dX13_restoreSnapshot_31 rfl 0 rfl ?_
    obtain ⟨g7, h⟩ := h
    refine gf_X13_6 E lm13 fl_X13_28 dX13_restoreSnapshot_32 ?_
    refine ra_iconst E dX13_restoreSnapshot_35 ki_0 ?_
    obtain ⟨g8, h⟩ := h
    refine ra_iald E (lmM (isRow_of g7).lt) (cel_row tc ad (isRow_of g7)) g8 dX13_restoreSnapshot_36 ?_
    exact ra_iret E hr dX13_restoreSnapshot_37 h
  · replace h := h.2 q4
    refine ra_iconst E dX13_restoreSnapshot_11 ki_0 ?_
    exact ra_iret E hr dX13_restoreSnapshot_12 h
def f_X13_appendText_L23 (p1 : Int32) (p2 : Int32) (p3 : Int32) (p4 : Int32) (p5 : Int32) (K : Int32 → TM → Prop) : Nat → Int32 → Int32 → Int32 → Int32 → Int32 → Int32 → TM → Prop
  | 0, _, _, _, _, _, _, _ => False
  | n + 1, x1, x2, x3, x4, x5, x6, M => (((20 : Int32) ≤ x6 → K (M 699 15) M) ∧ (¬ (20 : Int32) ≤ x6 → (((4 : Int32) ≤ x6 → (((8 : Int32) ≤ x6 → (((12 : Int32) ≤ x6 → (((16 : Int32) ≤ x6 → vp_in (M 699 15) 500 ∧ ∀ M9, M9 = u2 M 707 (M 699 15).toNatClampNeg ((x5 >>> (((24 : Int32) - ((8 : Int32) * (x6 - x6 / (4 : Int32) * (4 : Int32)))) &&& 31)) &&& (255 : Int32)) → ∀ M10, M10 = u2 M9 699 15 ((M9 699 15) + (1 : Int32)) → f_X13_appendText_L23 p1 p2 p3 p4 p5 K n x1 x2 x3 x4 x5 (x6 + 1) M10) ∧ (¬ (16 : Int32) ≤ x6 → vp_in (M 699 15) 500 ∧ ∀ M12, M12 = u2 M 707 (M 699 15).toNatClampNeg ((x4 >>> (((24 : Int32) - ((8 : Int32) * (x6 - x6 / (4 : Int32) * (4 : Int32)))) &&& 31)) &&& (255 : Int32)) → ∀ M13, M13 = u2 M12 699 15 ((M12 699 15) + (1 : Int32)) → f_X13_appendText_L23 p1 p2 p3 p4 p5 K n x1 x2 x3 x4 x5 (x6 + 1) M13))) ∧ (¬ (12 : Int32) ≤ x6 → vp_in (M 699 15) 500 ∧ ∀ M15, M15 = u2 M 707 (M 699 15).toNatClampNeg ((x3 >>> (((24 : Int32) - ((8 : Int32) * (x6 - x6 / (4 : Int32) * (4 : Int32)))) &&& 31)) &&& (255 : Int32)) → ∀ M16, M16 = u2 M15 699 15 ((M15 699 15) + (1 : Int32)) → f_X13_appendText_L23 p1 p2 p3 p4 p5 K n x1 x2 x3 x4 x5 (x6 + 1) M16))) ∧ (¬ (8 : Int32) ≤ x6 → vp_in (M 699 15) 500 ∧ ∀ M18, M18 = u2 M 707 (M 699 15).toNatClampNeg ((x2 >>> (((24 : Int32) - ((8 : Int32) * (x6 - x6 / (4 : Int32) * (4 : Int32)))) &&& 31)) &&& (255 : Int32)) → ∀ M19, M19 = u2 M18 699 15 ((M18 699 15) + (1 : Int32)) → f_X13_appendText_L23 p1 p2 p3 p4 p5 K n x1 x2 x3 x4 x5 (x6 + 1) M19))) ∧ (¬ (4 : Int32) ≤ x6 → vp_in (M 699 15) 500 ∧ ∀ M21, M21 = u2 M 707 (M 699 15).toNatClampNeg ((x1 >>> (((24 : Int32) - ((8 : Int32) * (x6 - x6 / (4 : Int32) * (4 : Int32)))) &&& 31)) &&& (255 : Int32)) → ∀ M22, M22 = u2 M21 699 15 ((M21 699 15) + (1 : Int32)) → f_X13_appendText_L23 p1 p2 p3 p4 p5 K n x1 x2 x3 x4 x5 (x6 + 1) M22))))
set_option maxRecDepth 100000 in
set_option maxHeartbeats 4000000 in
theorem l_X13_appendText_L23 {p : Program} {l : Launch} {e : Env} {s : State} {m : MethodId} {args : Array Value} {below : List Frame} {meth : Method} {c : Code} {D : va_G} {tc : Nat → ClassId} {ad : Nat → Nat} (p1 : Int32) (p2 : Int32) (p3 : Int32) (p4 : Int32) (p5 : Int32) {K : Int32 → TM → Prop} (E : Ev p s m args meth c D tc ad RX13 cX13_appendText 8) (hr : meth.sig.returnType = (some .int)) : ∀ (n : Nat) (x1 : Int32) (x2 : Int32) (x3 : Int32) (x4 : Int32) (x5 : Int32) (x6 : Int32) (M : TM) , f_X13_appendText_L23 p1 p2 p3 p4 p5 K n x1 x2 x3 x4 x5 x6 M → Wa p l e (rmD 0) s m args below meth c 0 0 (MQ below (va_Qi K (EndW D tc ad) (A0 ad s.heap.size)) args s 0 0 (A0 ad s.heap.size)) D tc ad 8 M 23 [(0, .ref (ad 699)), (1, .int x1), (2, .int x2), (3, .int x3), (4, .int x4), (5, .int x5), (6, .int x6)] [] := by
  intro n
  induction n with
  | zero => intro x1 x2 x3 x4 x5 x6 M  h; exact h.elim
  | succ n ih =>
    intro x1 x2 x3 x4 x5 x6 M  h
    unfold f_X13_appendText_L23 at h
    refine ra_iload E dX13_appendText_23 6 rfl ?_
    refine ra_bipush E dX13_appendText_25 kb_20 ?_
    refine ra_icmp_ge (tgt := 120) E dX13_appendText_27 (by decide) (fun q3 => ?_) (fun q3 => ?_)
    · replace h := h.1 q3
      refine ra_aload_n E dX13_appendText_120 rfl 0 rfl ?_
      refine gf_X13_15 E lm13 fl_X13_299 dX13_appendText_121 ?_
      exact ra_iret E hr dX13_appendText_124 h
    · replace h := h.2 q3
      refine ra_iload E dX13_appendText_30 6 rfl ?_
      refine ra_iconst E dX13_appendText_32 ki_4 ?_
      refine ra_icmp_ge (tgt := 40) E dX13_appendText_33 (by decide) (fun q4 => ?_) (fun q4 => ?_)
      · replace h := h.1 q4
        refine ra_iload E dX13_appendText_40 6 rfl ?_
        refine ra_bipush E dX13_appendText_42 kb_8 ?_
        refine ra_icmp_ge (tgt := 51) E dX13_appendText_44 (by decide) (fun q5 => ?_) (fun q5 => ?_)
        · replace h := h.1 q5
          refine ra_iload E dX13_appendText_51 6 rfl ?_
          refine ra_bipush E dX13_appendText_53 kb_12 ?_
          refine ra_icmp_ge (tgt := 62) E dX13_appendText_55 (by decide) (fun q6 => ?_) (fun q6 => ?_)
          · replace h := h.1 q6
            refine ra_iload E dX13_appendText_62 6 rfl ?_
            refine ra_bipush E dX13_appendText_64 kb_16 ?_
            refine ra_icmp_ge (tgt := 74) E dX13_appendText_66 (by decide) (fun q7 => ?_) (fun q7 => ?_)
            · replace h := h.1 q7
              refine ra_iload E dX13_appendText_74 5 rfl ?_
              refine ra_istore (L' := [(7, _), (0, _), (1, _), (2, _), (3, _), (4, _), (5, _), (6, _)]) E dX13_appendText_76 (by decide) rfl ?_
              refine ra_aload_n E dX13_appendText_78 rfl 1 rfl ?_
              refine gf_X13_14 E lm13 fl_X13_34 dX13_appendText_79 ?_
              refine ra_aload_n E dX13_appendText_82 rfl 1 rfl ?_
              refine gf_X13_15 E lm13 fl_X13_299 dX13_appendText_83 ?_
              refine ra_iload E dX13_appendText_86 0 rfl ?_
              refine ra_bipush E dX13_appendText_88 kb_24 ?_
              refine ra_bipush E dX13_appendText_90 kb_8 ?_
              refine ra_iload E dX13_appendText_92 7 rfl ?_
              refine ra_iconst E dX13_appendText_94 ki_4 ?_
              refine ra_irem E dX13_appendText_95 (by decide) ?_
              refine ra_imul E dX13_appendText_96 ?_
              refine ra_isub E dX13_appendText_97 ?_
              refine ra_ishr E dX13_appendText_98 ?_
              refine ra_sipush E dX13_appendText_99 ks_255 ?_
              refine ra_iand E dX13_appendText_102 ?_
              obtain ⟨g8, h⟩ := h
              refine ra_iast E (lmM (by decide)) (cel_707 tc ad) g8 dX13_appendText_103 ?_
              replace h := h _ rfl
              refine ra_aload_n E dX13_appendText_104 rfl 1 rfl ?_
              refine ra_dup E dX13_appendText_105 rfl ?_
              refine gf_X13_15 E lm13 fl_X13_299 dX13_appendText_106 ?_
              refine ra_iconst E dX13_appendText_109 ki_1 ?_
              refine ra_iadd E dX13_appendText_110 ?_
              refine pf_X13_15 E lm13 fl_X13_299 dX13_appendText_111 ?_
              replace h := h _ rfl
              refine ra_iinc1 (L' := [(6, _), (7, _), (0, _), (1, _), (2, _), (3, _), (4, _), (5, _)]) E dX13_appendText_114 7 rfl (by decide) rfl ?_
              refine ra_goto (tgt := 23) E dX13_appendText_117 (by decide) ?_
              exact ra_sub (L' := [(0, _), (1, _), (2, _), (3, _), (4, _), (5, _), (6, _)]) [2, 3, 4, 5, 6, 7, 0] rfl (ih _ _ _ _ _ _ _ h)
            · replace h := h.2 q7
              refine ra_iload E dX13_appendText_69 4 rfl ?_
              refine ra_goto (tgt := 76) E dX13_appendText_71 (by decide) ?_
              refine ra_istore (L' := [(7, _), (0, _), (1, _), (2, _), (3, _), (4, _), (5, _), (6, _)]) E dX13_appendText_76 (by decide) rfl ?_
              refine ra_aload_n E dX13_appendText_78 rfl 1 rfl ?_
              refine gf_X13_14 E lm13 fl_X13_34 dX13_appendText_79 ?_
              refine ra_aload_n E dX13_appendText_82 rfl 1 rfl ?_
              refine gf_X13_15 E lm13 fl_X13_299 dX13_appendText_83 ?_
              refine ra_iload E dX13_appendText_86 0 rfl ?_
              refine ra_bipush E dX13_appendText_88 kb_24 ?_
              refine ra_bipush E dX13_appendText_90 kb_8 ?_
              refine ra_iload E dX13_appendText_92 7 rfl ?_
              refine ra_iconst E dX13_appendText_94 ki_4 ?_
              refine ra_irem E dX13_appendText_95 (by decide) ?_
              refine ra_imul E dX13_appendText_96 ?_
              refine ra_isub E dX13_appendText_97 ?_
              refine ra_ishr E dX13_appendText_98 ?_
              refine ra_sipush E dX13_appendText_99 ks_255 ?_
              refine ra_iand E dX13_appendText_102 ?_
              obtain ⟨g11, h⟩ := h
              refine ra_iast E (lmM (by decide)) (cel_707 tc ad) g11 dX13_appendText_103 ?_
              replace h := h _ rfl
              refine ra_aload_n E dX13_appendText_104 rfl 1 rfl ?_
              refine ra_dup E dX13_appendText_105 rfl ?_
              refine gf_X13_15 E lm13 fl_X13_299 dX13_appendText_106 ?_
              refine ra_iconst E dX13_appendText_109 ki_1 ?_
              refine ra_iadd E dX13_appendText_110 ?_
              refine pf_X13_15 E lm13 fl_X13_299 dX13_appendText_111 ?_
              replace h := h _ rfl
              refine ra_iinc1 (L' := [(6, _), (7, _), (0, _), (1, _), (2, _), (3, _), (4, _), (5, _)]) E dX13_appendText_114 7 rfl (by decide) rfl ?_
              refine ra_goto (tgt := 23) E dX13_appendText_117 (by decide) ?_
              exact ra_sub (L' := [(0, _), (1, _), (2, _), (3, _), (4, _), (5, _), (6, _)]) [2, 3, 4, 5, 6, 7, 0] rfl (ih _ _ _ _ _ _ _ h)
          · replace h := h.2 q6
            refine ra_iload_n E dX13_appendText_58 rfl 3 rfl ?_
            refine ra_goto (tgt := 76) E dX13_appendText_59 (by decide) ?_
            refine ra_istore (L' := [(7, _), (0, _), (1, _), (2, _), (3, _), (4, _), (5, _), (6, _)]) E dX13_appendText_76 (by decide) rfl ?_
            refine ra_aload_n E dX13_appendText_78 rfl 1 rfl ?_
            refine gf_X13_14 E lm13 fl_X13_34 dX13_appendText_79 ?_
            refine ra_aload_n E dX13_appendText_82 rfl 1 rfl ?_
            refine gf_X13_15 E lm13 fl_X13_299 dX13_appendText_83 ?_
            refine ra_iload E dX13_appendText_86 0 rfl ?_
            refine ra_bipush E dX13_appendText_88 kb_24 ?_
            refine ra_bipush E dX13_appendText_90 kb_8 ?_
            refine ra_iload E dX13_appendText_92 7 rfl ?_
            refine ra_iconst E dX13_appendText_94 ki_4 ?_
            refine ra_irem E dX13_appendText_95 (by decide) ?_
            refine ra_imul E dX13_appendText_96 ?_
            refine ra_isub E dX13_appendText_97 ?_
            refine ra_ishr E dX13_appendText_98 ?_
            refine ra_sipush E dX13_appendText_99 ks_255 ?_
            refine ra_iand E dX13_appendText_102 ?_
            obtain ⟨g14, h⟩ := h
            refine ra_iast E (lmM (by decide)) (cel_707 tc ad) g14 dX13_appendText_103 ?_
            replace h := h _ rfl
            refine ra_aload_n E dX13_appendText_104 rfl 1 rfl ?_
            refine ra_dup E dX13_appendText_105 rfl ?_
            refine gf_X13_15 E lm13 fl_X13_299 dX13_appendText_106 ?_
            refine ra_iconst E dX13_appendText_109 ki_1 ?_
            refine ra_iadd E dX13_appendText_110 ?_
            refine pf_X13_15 E lm13 fl_X13_299 dX13_appendText_111 ?_
            replace h := h _ rfl
            refine ra_iinc1 (L' := [(6, _), (7, _), (0, _), (1, _), (2, _), (3, _), (4, _), (5, _)]) E dX13_appendText_114 7 rfl (by decide) rfl ?_
            refine ra_goto (tgt := 23) E dX13_appendText_117 (by decide) ?_
            exact ra_sub (L' := [(0, _), (1, _), (2, _), (3, _), (4, _), (5, _), (6, _)]) [2, 3, 4, 5, 6, 7, 0] rfl (ih _ _ _ _ _ _ _ h)
        · replace h := h.2 q5
          refine ra_iload_n E dX13_appendText_47 rfl 2 rfl ?_
          refine ra_goto (tgt := 76) E dX13_appendText_48 (by decide) ?_
          refine ra_istore (L' := [(7, _), (0, _), (1, _), (2, _), (3, _), (4, _), (5, _), (6, _)]) E dX13_appendText_76 (by decide) rfl ?_
          refine ra_aload_n E dX13_appendText_78 rfl 1 rfl ?_
          refine gf_X13_14 E lm13 fl_X13_34 dX13_appendText_79 ?_
          refine ra_aload_n E dX13_appendText_82 rfl 1 rfl ?_
          refine gf_X13_15 E lm13 fl_X13_299 dX13_appendText_83 ?_
          refine ra_iload E dX13_appendText_86 0 rfl ?_
          refine ra_bipush E dX13_appendText_88 kb_24 ?_
          refine ra_bipush E dX13_appendText_90 kb_8 ?_
          refine ra_iload E dX13_appendText_92 7 rfl ?_
          refine ra_iconst E dX13_appendText_94 ki_4 ?_
          refine ra_irem E dX13_appendText_95 (by decide) ?_
          refine ra_imul E dX13_appendText_96 ?_
          refine ra_isub E dX13_appendText_97 ?_
          refine ra_ishr E dX13_appendText_98 ?_
          refine ra_sipush E dX13_appendText_99 ks_255 ?_
          refine ra_iand E dX13_appendText_102 ?_
          obtain ⟨g17, h⟩ := h
          refine ra_iast E (lmM (by decide)) (cel_707 tc ad) g17 dX13_appendText_103 ?_
          replace h := h _ rfl
          refine ra_aload_n E dX13_appendText_104 rfl 1 rfl ?_
          refine ra_dup E dX13_appendText_105 rfl ?_
          refine gf_X13_15 E lm13 fl_X13_299 dX13_appendText_106 ?_
          refine ra_iconst E dX13_appendText_109 ki_1 ?_
          refine ra_iadd E dX13_appendText_110 ?_
          refine pf_X13_15 E lm13 fl_X13_299 dX13_appendText_111 ?_
          replace h := h _ rfl
          refine ra_iinc1 (L' := [(6, _), (7, _), (0, _), (1, _), (2, _), (3, _), (4, _), (5, _)]) E dX13_appendText_114 7 rfl (by decide) rfl ?_
          refine ra_goto (tgt := 23) E dX13_appendText_117 (by decide) ?_
          exact ra_sub (L' := [(0, _), (1, _), (2, _), (3, _), (4, _), (5, _), (6, _)]) [2, 3, 4, 5, 6, 7, 0] rfl (ih _ _ _ _ _ _ _ h)
      · replace h := h.2 q4
        refine ra_iload_n E dX13_appendText_36 rfl 1 rfl ?_
        refine ra_goto (tgt := 76) E dX13_appendText_37 (by decide) ?_
        refine ra_istore (L' := [(7, _), (0, _), (1, _), (2, _), (3, _), (4, _), (5, _), (6, _)]) E dX13_appendText_76 (by decide) rfl ?_
        refine ra_aload_n E dX13_appendText_78 rfl 1 rfl ?_
        refine gf_X13_14 E lm13 fl_X13_34 dX13_appendText_79 ?_
        refine ra_aload_n E dX13_appendText_82 rfl 1 rfl ?_
        refine gf_X13_15 E lm13 fl_X13_299 dX13_appendText_83 ?_
        refine ra_iload E dX13_appendText_86 0 rfl ?_
        refine ra_bipush E dX13_appendText_88 kb_24 ?_
        refine ra_bipush E dX13_appendText_90 kb_8 ?_
        refine ra_iload E dX13_appendText_92 7 rfl ?_
        refine ra_iconst E dX13_appendText_94 ki_4 ?_
        refine ra_irem E dX13_appendText_95 (by decide) ?_
        refine ra_imul E dX13_appendText_96 ?_
        refine ra_isub E dX13_appendText_97 ?_
        refine ra_ishr E dX13_appendText_98 ?_
        refine ra_sipush E dX13_appendText_99 ks_255 ?_
        refine ra_iand E dX13_appendText_102 ?_
        obtain ⟨g20, h⟩ := h
        refine ra_iast E (lmM (by decide)) (cel_707 tc ad) g20 dX13_appendText_103 ?_
        replace h := h _ rfl
        refine ra_aload_n E dX13_appendText_104 rfl 1 rfl ?_
        refine ra_dup E dX13_appendText_105 rfl ?_
        refine gf_X13_15 E lm13 fl_X13_299 dX13_appendText_106 ?_
        refine ra_iconst E dX13_appendText_109 ki_1 ?_
        refine ra_iadd E dX13_appendText_110 ?_
        refine pf_X13_15 E lm13 fl_X13_299 dX13_appendText_111 ?_
        replace h := h _ rfl
        refine ra_iinc1 (L' := [(6, _), (7, _), (0, _), (1, _), (2, _), (3, _), (4, _), (5, _)]) E dX13_appendText_114 7 rfl (by decide) rfl ?_
        refine ra_goto (tgt := 23) E dX13_appendText_117 (by decide) ?_
        exact ra_sub (L' := [(0, _), (1, _), (2, _), (3, _), (4, _), (5, _), (6, _)]) [2, 3, 4, 5, 6, 7, 0] rfl (ih _ _ _ _ _ _ _ h)
def f_X13_appendText (p1 : Int32) (p2 : Int32) (p3 : Int32) (p4 : Int32) (p5 : Int32) (M : TM) (K : Int32 → TM → Prop) : Prop := ∀ M1, M1 = u2 M 699 8 (0 : Int32) → ((((M1 699 15) + (20 : Int32)) ≤ (500 : Int32) → ∃ n, f_X13_appendText_L23 p1 p2 p3 p4 p5 K n p1 p2 p3 p4 p5 (0 : Int32) M1) ∧ (¬ ((M1 699 15) + (20 : Int32)) ≤ (500 : Int32) → K (-1 : Int32) M1))
set_option maxRecDepth 100000 in
set_option maxHeartbeats 4000000 in
theorem c_X13_appendText {ad : Nat → Nat} (p1 : Int32) (p2 : Int32) (p3 : Int32) (p4 : Int32) (p5 : Int32) (M : TM) (K : Int32 → TM → Prop) (h : f_X13_appendText p1 p2 p3 p4 p5 M K) : MI yX13_appendText cX13_appendText 8 (some .int) 0 ad [.ref (ad 699), .int p1, .int p2, .int p3, .int p4, .int p5] M K := by
  refine MI_of RX13 rfl (by decide +kernel) (Nat.le_of_ble_eq_true rfl) (fun p l e s m below meth c D tc E hr => ?_)
  unfold f_X13_appendText at h
  refine ra_aload_n E dX13_appendText_0 rfl 0 rfl ?_
  refine ra_iconst E dX13_appendText_1 ki_0 ?_
  refine pf_X13_8 E lm13 fl_X13_79 dX13_appendText_2 ?_
  replace h := h _ rfl
  refine ra_aload_n E dX13_appendText_5 rfl 0 rfl ?_
  refine gf_X13_15 E lm13 fl_X13_299 dX13_appendText_6 ?_
  refine ra_bipush E dX13_appendText_9 kb_20 ?_
  refine ra_iadd E dX13_appendText_11 ?_
  refine ra_sipush E dX13_appendText_12 ks_500 ?_
  refine ra_icmp_le (tgt := 20) E dX13_appendText_15 (by decide) (fun q2 => ?_) (fun q2 => ?_)
  · replace h := h.1 q2
    refine ra_iconst E dX13_appendText_20 ki_0 ?_
    refine ra_istore (L' := [(6, _), (0, _), (1, _), (2, _), (3, _), (4, _), (5, _)]) E dX13_appendText_21 (by decide) rfl ?_
    obtain ⟨n23, h⟩ := h
    exact ra_sub (L' := [(0, _), (1, _), (2, _), (3, _), (4, _), (5, _), (6, _)]) [1, 2, 3, 4, 5, 6, 0] rfl (l_X13_appendText_L23 p1 p2 p3 p4 p5 E hr n23 _ _ _ _ _ _ _ h)
  · replace h := h.2 q2
    refine ra_iconst E dX13_appendText_18 ki_m1 ?_
    exact ra_iret E hr dX13_appendText_19 h
def f_X13_errorOffset  (M : TM) (K : Int32 → TM → Prop) : Prop := ∀ M1, M1 = u2 M 699 8 (0 : Int32) → K (M1 699 22) M1
set_option maxRecDepth 100000 in
set_option maxHeartbeats 4000000 in
theorem c_X13_errorOffset {ad : Nat → Nat}  (M : TM) (K : Int32 → TM → Prop) (h : f_X13_errorOffset  M K) : MI yX13_errorOffset cX13_errorOffset 1 (some .int) 0 ad [.ref (ad 699)] M K := by
  refine MI_of RX13 rfl (by decide +kernel) (Nat.le_of_ble_eq_true rfl) (fun p l e s m below meth c D tc E hr => ?_)
  unfold f_X13_errorOffset at h
  refine ra_aload_n E dX13_errorOffset_0 rfl 0 rfl ?_
  refine ra_iconst E dX13_errorOffset_1 ki_0 ?_
  refine pf_X13_8 E lm13 fl_X13_79 dX13_errorOffset_2 ?_
  replace h := h _ rfl
  refine ra_aload_n E dX13_errorOffset_5 rfl 0 rfl ?_
  refine gf_X13_22 E lm13 fl_X13_37 dX13_errorOffset_6 ?_
  exact ra_iret E hr dX13_errorOffset_9 h
def f_X13_byteAt (p1 : Int32) (M : TM) (K : Int32 → TM → Prop) : Prop := (((M 699 16) ≤ p1 → K (-1 : Int32) M) ∧ (¬ (M 699 16) ≤ p1 → vp_in p1 500 ∧ K (M 707 p1.toNatClampNeg) M))
set_option maxRecDepth 100000 in
set_option maxHeartbeats 4000000 in
theorem c_X13_byteAt {ad : Nat → Nat} (p1 : Int32) (M : TM) (K : Int32 → TM → Prop) (h : f_X13_byteAt p1 M K) : MI yX13_byteAt cX13_byteAt 2 (some .int) 0 ad [.ref (ad 699), .int p1] M K := by
  refine MI_of RX13 rfl (by decide +kernel) (Nat.le_of_ble_eq_true rfl) (fun p l e s m below meth c D tc E hr => ?_)
  unfold f_X13_byteAt at h
  refine ra_iload_n E dX13_byteAt_0 rfl 1 rfl ?_
  refine ra_aload_n E dX13_byteAt_1 rfl 0 rfl ?_
  refine gf_X13_16 E lm13 fl_X13_302 dX13_byteAt_2 ?_
  refine ra_icmp_ge (tgt := 17) E dX13_byteAt_5 (by decide) (fun q1 => ?_) (fun q1 => ?_)
  · replace h := h.1 q1
    refine ra_iconst E dX13_byteAt_17 ki_m1 ?_
    exact ra_iret E hr dX13_byteAt_18 h
  · replace h := h.2 q1
    refine ra_aload_n E dX13_byteAt_8 rfl 0 rfl ?_
    refine gf_X13_14 E lm13 fl_X13_34 dX13_byteAt_9 ?_
    refine ra_iload_n E dX13_byteAt_12 rfl 1 rfl ?_
    obtain ⟨g2, h⟩ := h
    refine ra_iald E (lmM (by decide)) (cel_707 tc ad) g2 dX13_byteAt_13 ?_
    refine ra_goto (tgt := 18) E dX13_byteAt_14 (by decide) ?_
    exact ra_iret E hr dX13_byteAt_18 h
