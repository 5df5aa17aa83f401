def f_X13_ordersAt_L18 (p1 : Int32) (K : Int32 → TM → Prop) : Nat → Int32 → Int32 → Int32 → TM → Prop
  | 0, _, _, _, _ => False
  | n + 1, x1, x2, x3, M => vp_in (M 699 6) 2 ∧ vp_in (3 : Int32) 377 ∧ (((M (700 + (M 699 6).toNatClampNeg) (3 : Int32).toNatClampNeg) ≤ x3 → K x2 M) ∧ (¬ (M (700 + (M 699 6).toNatClampNeg) (3 : Int32).toNatClampNeg) ≤ x3 → f_X13_ofOrder x3 (0 : Int32) M (fun r12 M11 => ((¬ r12 = x1 → f_X13_ordersAt_L18 p1 K n x1 (x2 + (0 : Int32)) (x3 + 1) M11) ∧ (r12 = x1 → f_X13_isAlive x3 M11 (fun r15 M14 => ((r15 = 0 → f_X13_ordersAt_L18 p1 K n x1 (x2 + (0 : Int32)) (x3 + 1) M14) ∧ (¬ r15 = 0 → f_X13_ordersAt_L18 p1 K n x1 (x2 + (1 : Int32)) (x3 + 1) M14))))))))
set_option maxRecDepth 100000 in
set_option maxHeartbeats 4000000 in
theorem l_X13_ordersAt_L18 {p : Program} {l : Launch} {e : Env} {s : State} {m : MethodId} {args : Array Value} {below : List Frame} {meth : Method} {c : Code} {D : va_G} {tc : Nat → ClassId} {ad : Nat → Nat} (p1 : Int32) {K : Int32 → TM → Prop} (E : Ev p s m args meth c D tc ad RX13 cX13_ordersAt 4) (hr : meth.sig.returnType = (some .int)) : ∀ (n : Nat) (x1 : Int32) (x2 : Int32) (x3 : Int32) (M : TM) , f_X13_ordersAt_L18 p1 K n x1 x2 x3 M → Wa p l e (rmD 2) s m args below meth c 0 0 (MQ below (va_Qi K (EndW D tc ad) (A0 ad s.heap.size)) args s 0 0 (A0 ad s.heap.size)) D tc ad 4 M 18 [(0, .ref (ad 699)), (1, .int x1), (2, .int x2), (3, .int x3)] [] := by
  intro n
  induction n with
  | zero => intro x1 x2 x3 M  h; exact h.elim
  | succ n ih =>
    intro x1 x2 x3 M  h
    unfold f_X13_ordersAt_L18 at h
    refine ra_iload_n E dX13_ordersAt_18 rfl 3 rfl ?_
    refine ra_aload_n E dX13_ordersAt_19 rfl 0 rfl ?_
    obtain ⟨g8, h⟩ := h
    refine gf_X13_6 E lm13 fl_X13_28 dX13_ordersAt_20 ?_
    refine ra_iconst E dX13_ordersAt_23 ki_3 ?_
    obtain ⟨g9, h⟩ := h
    refine ra_iald E (lmM (isRow_of g8).lt) (cel_row tc ad (isRow_of g8)) g9 dX13_ordersAt_24 ?_
    refine ra_icmp_ge (tgt := 60) E dX13_ordersAt_25 (by decide) (fun q10 => ?_) (fun q10 => ?_)
    · replace h := h.1 q10
      refine ra_iload_n E dX13_ordersAt_60 rfl 2 rfl ?_
      exact ra_iret E hr dX13_ordersAt_61 h
    · replace h := h.2 q10
      refine ra_iload_n E dX13_ordersAt_28 rfl 2 rfl ?_
      refine ra_aload_n E dX13_ordersAt_29 rfl 0 rfl ?_
      refine ra_iload_n E dX13_ordersAt_30 rfl 3 rfl ?_
      refine ra_iconst E dX13_ordersAt_31 ki_0 ?_
      refine ra_callIV (rest := [_]) E (c_X13_ofOrder _ _ _ _ h) lq_13 cv_X13_ofOrder ml_X13_101 (by decide) (lmM (by decide)) (fun R => ⟨_, cel_699 tc ad R⟩) rfl rfl rfl (Nat.le_of_ble_eq_true rfl) ⟨Nat.le_of_ble_eq_true rfl, Nat.le_of_ble_eq_true rfl⟩ ⟨Nat.zero_le _, Nat.zero_le _⟩ dX13_ordersAt_32 (fun r12 M11 h => ?_)
      refine ra_iload_n E dX13_ordersAt_35 rfl 1 rfl ?_
      refine ra_icmp_ne (tgt := 51) E dX13_ordersAt_36 (by decide) (fun q13 => ?_) (fun q13 => ?_)
      · replace h := h.1 q13
        refine ra_iconst E dX13_ordersAt_51 ki_0 ?_
        refine ra_iadd E dX13_ordersAt_52 ?_
        refine ra_istore_n (L' := [(2, _), (0, _), (1, _), (3, _)]) E dX13_ordersAt_53 rfl (by decide) rfl ?_
        refine ra_iinc1 (L' := [(3, _), (2, _), (0, _), (1, _)]) E dX13_ordersAt_54 3 rfl (by decide) rfl ?_
        refine ra_goto (tgt := 18) E dX13_ordersAt_57 (by decide) ?_
        exact ra_sub (L' := [(0, _), (1, _), (2, _), (3, _)]) [2, 3, 1, 0] rfl (ih _ _ _ _ h)
      · replace h := h.2 q13
        refine ra_aload_n E dX13_ordersAt_39 rfl 0 rfl ?_
        refine ra_iload_n E dX13_ordersAt_40 rfl 3 rfl ?_
        refine ra_callIV (rest := [_]) E (c_X13_isAlive _ _ _ h) lq_13 cv_X13_isAlive ml_X13_137 (by decide) (lmM (by decide)) (fun R => ⟨_, cel_699 tc ad R⟩) rfl rfl rfl (Nat.le_of_ble_eq_true rfl) ⟨Nat.le_of_ble_eq_true rfl, Nat.le_of_ble_eq_true rfl⟩ ⟨Nat.zero_le _, Nat.zero_le _⟩ dX13_ordersAt_41 (fun r15 M14 h => ?_)
        obtain ⟨b16, h⟩ := h
        refine ra_if_eq (tgt := 51) E dX13_ordersAt_44 (by decide) (fun q17 => ?_) (fun q17 => ?_)
        · replace h := h.1 q17
          refine ra_iconst E dX13_ordersAt_51 ki_0 ?_
          refine ra_iadd E dX13_ordersAt_52 ?_
          refine ra_istore_n (L' := [(2, _), (0, _), (1, _), (3, _)]) E dX13_ordersAt_53 rfl (by decide) rfl ?_
          refine ra_iinc1 (L' := [(3, _), (2, _), (0, _), (1, _)]) E dX13_ordersAt_54 3 rfl (by decide) rfl ?_
          refine ra_goto (tgt := 18) E dX13_ordersAt_57 (by decide) ?_
          exact ra_sub (L' := [(0, _), (1, _), (2, _), (3, _)]) [2, 3, 1, 0] rfl (ih _ _ _ _ h)
        · replace h := h.2 q17
          refine ra_iconst E dX13_ordersAt_47 ki_1 ?_
          refine ra_goto (tgt := 52) E dX13_ordersAt_48 (by decide) ?_
          refine ra_iadd E dX13_ordersAt_52 ?_
          refine ra_istore_n (L' := [(2, _), (0, _), (1, _), (3, _)]) E dX13_ordersAt_53 rfl (by decide) rfl ?_
          refine ra_iinc1 (L' := [(3, _), (2, _), (0, _), (1, _)]) E dX13_ordersAt_54 3 rfl (by decide) rfl ?_
          refine ra_goto (tgt := 18) E dX13_ordersAt_57 (by decide) ?_
          exact ra_sub (L' := [(0, _), (1, _), (2, _), (3, _)]) [2, 3, 1, 0] rfl (ih _ _ _ _ h)
def f_X13_ordersAt (p1 : Int32) (M : TM) (K : Int32 → TM → Prop) : Prop := f_X13_isPlace p1 M (fun r2 M1 => f_X13_lacks r2 M1 (fun r5 M4 => ((r5 = 0 → ∃ n, f_X13_ordersAt_L18 p1 K n p1 (0 : Int32) (0 : Int32) M4) ∧ (¬ r5 = 0 → K (0 : Int32) M4))))
set_option maxRecDepth 100000 in
set_option maxHeartbeats 4000000 in
theorem c_X13_ordersAt {ad : Nat → Nat} (p1 : Int32) (M : TM) (K : Int32 → TM → Prop) (h : f_X13_ordersAt p1 M K) : MI yX13_ordersAt cX13_ordersAt 4 (some .int) 2 ad [.ref (ad 699), .int p1] M K := by
  refine MI_of RX13 rfl (by decide +kernel) (Nat.le_of_ble_eq_true rfl) (fun p l e s m below meth c D tc E hr => ?_)
  unfold f_X13_ordersAt at h
  refine ra_aload_n E dX13_ordersAt_0 rfl 0 rfl ?_
  refine ra_aload_n E dX13_ordersAt_1 rfl 0 rfl ?_
  refine ra_iload_n E dX13_ordersAt_2 rfl 1 rfl ?_
  refine ra_callIV (rest := [_]) E (c_X13_isPlace _ _ _ h) lq_13 cv_X13_isPlace ml_X13_131 (by decide) (lmM (by decide)) (fun R => ⟨_, cel_699 tc ad R⟩) rfl rfl rfl (Nat.le_of_ble_eq_true rfl) ⟨Nat.le_of_ble_eq_true rfl, Nat.le_of_ble_eq_true rfl⟩ ⟨Nat.zero_le _, Nat.zero_le _⟩ dX13_ordersAt_3 (fun r2 M1 h => ?_)
  obtain ⟨b3, h⟩ := h
  refine ra_callIV (rest := []) E (c_X13_lacks _ _ _ h) lq_13 cv_X13_lacks ml_X13_82 (by decide) (lmM (by decide)) (fun R => ⟨_, cel_699 tc ad R⟩) rfl rfl rfl (Nat.le_of_ble_eq_true rfl) ⟨Nat.le_of_ble_eq_true rfl, Nat.le_of_ble_eq_true rfl⟩ ⟨Nat.zero_le _, Nat.zero_le _⟩ dX13_ordersAt_6 (fun r5 M4 h => ?_)
  obtain ⟨b6, h⟩ := h
  refine ra_if_eq (tgt := 14) E dX13_ordersAt_9 (by decide) (fun q7 => ?_) (fun q7 => ?_)
  · replace h := h.1 q7
    refine ra_iconst E dX13_ordersAt_14 ki_0 ?_
    refine ra_istore_n (L' := [(2, _), (0, _), (1, _)]) E dX13_ordersAt_15 rfl (by decide) rfl ?_
    refine ra_iconst E dX13_ordersAt_16 ki_0 ?_
    refine ra_istore_n (L' := [(3, _), (2, _), (0, _), (1, _)]) E dX13_ordersAt_17 rfl (by decide) rfl ?_
    obtain ⟨n18, h⟩ := h
    exact ra_sub (L' := [(0, _), (1, _), (2, _), (3, _)]) [2, 3, 1, 0] rfl (l_X13_ordersAt_L18 p1 E hr n18 _ _ _ _ h)
  · replace h := h.2 q7
    refine ra_iconst E dX13_ordersAt_12 ki_0 ?_
    exact ra_iret E hr dX13_ordersAt_13 h
def f_X13_told (p1 : Int32) (p2 : Int32) (M : TM) (K : Int32 → TM → Prop) : Prop := f_X13_isBarge p1 M (fun r2 M1 => f_X13_lacks r2 M1 (fun r5 M4 => ((r5 = 0 → f_X13_of p1 p2 M4 (fun r9 M8 => K r9 M8)) ∧ (¬ r5 = 0 → K (0 : Int32) M4))))
set_option maxRecDepth 100000 in
set_option maxHeartbeats 4000000 in
theorem c_X13_told {ad : Nat → Nat} (p1 : Int32) (p2 : Int32) (M : TM) (K : Int32 → TM → Prop) (h : f_X13_told p1 p2 M K) : MI yX13_told cX13_told 3 (some .int) 2 ad [.ref (ad 699), .int p1, .int p2] M K := by
  refine MI_of RX13 rfl (by decide +kernel) (Nat.le_of_ble_eq_true rfl) (fun p l e s m below meth c D tc E hr => ?_)
  unfold f_X13_told at h
  refine ra_aload_n E dX13_told_0 rfl 0 rfl ?_
  refine ra_aload_n E dX13_told_1 rfl 0 rfl ?_
  refine ra_iload_n E dX13_told_2 rfl 1 rfl ?_
  refine ra_callIV (rest := [_]) E (c_X13_isBarge _ _ _ h) lq_13 cv_X13_isBarge ml_X13_140 (by decide) (lmM (by decide)) (fun R => ⟨_, cel_699 tc ad R⟩) rfl rfl rfl (Nat.le_of_ble_eq_true rfl) ⟨Nat.le_of_ble_eq_true rfl, Nat.le_of_ble_eq_true rfl⟩ ⟨Nat.zero_le _, Nat.zero_le _⟩ dX13_told_3 (fun r2 M1 h => ?_)
  obtain ⟨b3, h⟩ := h
  refine ra_callIV (rest := []) E (c_X13_lacks _ _ _ h) lq_13 cv_X13_lacks ml_X13_82 (by decide) (lmM (by decide)) (fun R => ⟨_, cel_699 tc ad R⟩) rfl rfl rfl (Nat.le_of_ble_eq_true rfl) ⟨Nat.le_of_ble_eq_true rfl, Nat.le_of_ble_eq_true rfl⟩ ⟨Nat.zero_le _, Nat.zero_le _⟩ dX13_told_6 (fun r5 M4 h => ?_)
  obtain ⟨b6, h⟩ := h
  refine ra_if_eq (tgt := 16) E dX13_told_9 (by decide) (fun q7 => ?_) (fun q7 => ?_)
  · replace h := h.1 q7
    refine ra_aload_n E dX13_told_16 rfl 0 rfl ?_
    refine ra_iload_n E dX13_told_17 rfl 1 rfl ?_
    refine ra_iload_n E dX13_told_18 rfl 2 rfl ?_
    refine ra_callIV (rest := []) E (c_X13_of _ _ _ _ h) lq_13 cv_X13_of ml_X13_93 (by decide) (lmM (by decide)) (fun R => ⟨_, cel_699 tc ad R⟩) rfl rfl rfl (Nat.le_of_ble_eq_true rfl) ⟨Nat.le_of_ble_eq_true rfl, Nat.le_of_ble_eq_true rfl⟩ ⟨Nat.zero_le _, Nat.zero_le _⟩ dX13_told_19 (fun r9 M8 h => ?_)
    exact ra_iret E hr dX13_told_22 h
  · replace h := h.2 q7
    refine ra_iconst E dX13_told_12 ki_0 ?_
    refine ra_goto (tgt := 22) E dX13_told_13 (by decide) ?_
    exact ra_iret E hr dX13_told_22 h
def f_X13_bargeCount  (M : TM) (K : Int32 → TM → Prop) : Prop := ∀ M1, M1 = u2 M 699 8 (0 : Int32) → vp_in (M1 699 6) 2 ∧ vp_in (2 : Int32) 377 ∧ K (M1 (700 + (M1 699 6).toNatClampNeg) (2 : Int32).toNatClampNeg) M1
set_option maxRecDepth 100000 in
set_option maxHeartbeats 4000000 in
theorem c_X13_bargeCount {ad : Nat → Nat}  (M : TM) (K : Int32 → TM → Prop) (h : f_X13_bargeCount  M K) : MI yX13_bargeCount cX13_bargeCount 1 (some .int) 0 ad [.ref (ad 699)] M K := by
  refine MI_of RX13 rfl (by decide +kernel) (Nat.le_of_ble_eq_true rfl) (fun p l e s m below meth c D tc E hr => ?_)
  unfold f_X13_bargeCount at h
  refine ra_aload_n E dX13_bargeCount_0 rfl 0 rfl ?_
  refine ra_iconst E dX13_bargeCount_1 ki_0 ?_
  refine pf_X13_8 E lm13 fl_X13_79 dX13_bargeCount_2 ?_
  replace h := h _ rfl
  refine ra_aload_n E dX13_bargeCount_5 rfl 0 rfl ?_
  obtain ⟨g2, h⟩ := h
  refine gf_X13_6 E lm13 fl_X13_28 dX13_bargeCount_6 ?_
  refine ra_iconst E dX13_bargeCount_9 ki_2 ?_
  obtain ⟨g3, h⟩ := h
  refine ra_iald E (lmM (isRow_of g2).lt) (cel_row tc ad (isRow_of g2)) g3 dX13_bargeCount_10 ?_
  exact ra_iret E hr dX13_bargeCount_11 h
def f_X13_placeOf (p1 : Int32) (M : TM) (K : Int32 → TM → Prop) : Prop := f_X13_told p1 (0 : Int32) M (fun r2 M1 => K r2 M1)
set_option maxRecDepth 100000 in
set_option maxHeartbeats 4000000 in
theorem c_X13_placeOf {ad : Nat → Nat} (p1 : Int32) (M : TM) (K : Int32 → TM → Prop) (h : f_X13_placeOf p1 M K) : MI yX13_placeOf cX13_placeOf 2 (some .int) 3 ad [.ref (ad 699), .int p1] M K := by
  refine MI_of RX13 rfl (by decide +kernel) (Nat.le_of_ble_eq_true rfl) (fun p l e s m below meth c D tc E hr => ?_)
  unfold f_X13_placeOf at h
  refine ra_aload_n E dX13_placeOf_0 rfl 0 rfl ?_
  refine ra_iload_n E dX13_placeOf_1 rfl 1 rfl ?_
  refine ra_iconst E dX13_placeOf_2 ki_0 ?_
  refine ra_callIV (rest := []) E (c_X13_told _ _ _ _ h) lq_13 cv_X13_told ml_X13_143 (by decide) (lmM (by decide)) (fun R => ⟨_, cel_699 tc ad R⟩) rfl rfl rfl (Nat.le_of_ble_eq_true rfl) ⟨Nat.le_of_ble_eq_true rfl, Nat.le_of_ble_eq_true rfl⟩ ⟨Nat.zero_le _, Nat.zero_le _⟩ dX13_placeOf_3 (fun r2 M1 h => ?_)
  exact ra_iret E hr dX13_placeOf_6 h
def f_X13_targetOf (p1 : Int32) (M : TM) (K : Int32 → TM → Prop) : Prop := f_X13_told p1 (1 : Int32) M (fun r2 M1 => K r2 M1)
set_option maxRecDepth 100000 in
set_option maxHeartbeats 4000000 in
theorem c_X13_targetOf {ad : Nat → Nat} (p1 : Int32) (M : TM) (K : Int32 → TM → Prop) (h : f_X13_targetOf p1 M K) : MI yX13_targetOf cX13_targetOf 2 (some .int) 3 ad [.ref (ad 699), .int p1] M K := by
  refine MI_of RX13 rfl (by decide +kernel) (Nat.le_of_ble_eq_true rfl) (fun p l e s m below meth c D tc E hr => ?_)
  unfold f_X13_targetOf at h
  refine ra_aload_n E dX13_targetOf_0 rfl 0 rfl ?_
  refine ra_iload_n E dX13_targetOf_1 rfl 1 rfl ?_
  refine ra_iconst E dX13_targetOf_2 ki_1 ?_
  refine ra_callIV (rest := []) E (c_X13_told _ _ _ _ h) lq_13 cv_X13_told ml_X13_143 (by decide) (lmM (by decide)) (fun R => ⟨_, cel_699 tc ad R⟩) rfl rfl rfl (Nat.le_of_ble_eq_true rfl) ⟨Nat.le_of_ble_eq_true rfl, Nat.le_of_ble_eq_true rfl⟩ ⟨Nat.zero_le _, Nat.zero_le _⟩ dX13_targetOf_3 (fun r2 M1 h => ?_)
  exact ra_iret E hr dX13_targetOf_6 h
def f_X13_heightOf (p1 : Int32) (M : TM) (K : Int32 → TM → Prop) : Prop := f_X13_told p1 (2 : Int32) M (fun r2 M1 => K r2 M1)
set_option maxRecDepth 100000 in
set_option maxHeartbeats 4000000 in
theorem c_X13_heightOf {ad : Nat → Nat} (p1 : Int32) (M : TM) (K : Int32 → TM → Prop) (h : f_X13_heightOf p1 M K) : MI yX13_heightOf cX13_heightOf 2 (some .int) 3 ad [.ref (ad 699), .int p1] M K := by
  refine MI_of RX13 rfl (by decide +kernel) (Nat.le_of_ble_eq_true rfl) (fun p l e s m below meth c D tc E hr => ?_)
  unfold f_X13_heightOf at h
  refine ra_aload_n E dX13_heightOf_0 rfl 0 rfl ?_
  refine ra_iload_n E dX13_heightOf_1 rfl 1 rfl ?_
  refine ra_iconst E dX13_heightOf_2 ki_2 ?_
  refine ra_callIV (rest := []) E (c_X13_told _ _ _ _ h) lq_13 cv_X13_told ml_X13_143 (by decide) (lmM (by decide)) (fun R => ⟨_, cel_699 tc ad R⟩) rfl rfl rfl (Nat.le_of_ble_eq_true rfl) ⟨Nat.le_of_ble_eq_true rfl, Nat.le_of_ble_eq_true rfl⟩ ⟨Nat.zero_le _, Nat.zero_le _⟩ dX13_heightOf_3 (fun r2 M1 h => ?_)
  exact ra_iret E hr dX13_heightOf_6 h
def f_X13_timeInLock (p1 : Int32) (M : TM) (K : Int32 → TM → Prop) : Prop := f_X13_told p1 (6 : Int32) M (fun r2 M1 => K r2 M1)
set_option maxRecDepth 100000 in
set_option maxHeartbeats 4000000 in
theorem c_X13_timeInLock {ad : Nat → Nat} (p1 : Int32) (M : TM) (K : Int32 → TM → Prop) (h : f_X13_timeInLock p1 M K) : MI yX13_timeInLock cX13_timeInLock 2 (some .int) 3 ad [.ref (ad 699), .int p1] M K := by
  refine MI_of RX13 rfl (by decide +kernel) (Nat.le_of_ble_eq_true rfl) (fun p l e s m below meth c D tc E hr => ?_)
  unfold f_X13_timeInLock at h
  refine ra_aload_n E dX13_timeInLock_0 rfl 0 rfl ?_
  refine ra_iload_n E dX13_timeInLock_1 rfl 1 rfl ?_
  refine ra_bipush E dX13_timeInLock_2 kb_6 ?_
  refine ra_callIV (rest := []) E (c_X13_told _ _ _ _ h) lq_13 cv_X13_told ml_X13_143 (by decide) (lmM (by decide)) (fun R => ⟨_, cel_699 tc ad R⟩) rfl rfl rfl (Nat.le_of_ble_eq_true rfl) ⟨Nat.le_of_ble_eq_true rfl, Nat.le_of_ble_eq_true rfl⟩ ⟨Nat.zero_le _, Nat.zero_le _⟩ dX13_timeInLock_4 (fun r2 M1 h => ?_)
  exact ra_iret E hr dX13_timeInLock_7 h
def f_X13_flour (p1 : Int32) (M : TM) (K : Int32 → TM → Prop) : Prop := f_X13_told p1 (3 : Int32) M (fun r2 M1 => K r2 M1)
set_option maxRecDepth 100000 in
set_option maxHeartbeats 4000000 in
theorem c_X13_flour {ad : Nat → Nat} (p1 : Int32) (M : TM) (K : Int32 → TM → Prop) (h : f_X13_flour p1 M K) : MI yX13_flour cX13_flour 2 (some .int) 3 ad [.ref (ad 699), .int p1] M K := by
  refine MI_of RX13 rfl (by decide +kernel) (Nat.le_of_ble_eq_true rfl) (fun p l e s m below meth c D tc E hr => ?_)
  unfold f_X13_flour at h
  refine ra_aload_n E dX13_flour_0 rfl 0 rfl ?_
  refine ra_iload_n E dX13_flour_1 rfl 1 rfl ?_
  refine ra_iconst E dX13_flour_2 ki_3 ?_
  refine ra_callIV (rest := []) E (c_X13_told _ _ _ _ h) lq_13 cv_X13_told ml_X13_143 (by decide) (lmM (by decide)) (fun R => ⟨_, cel_699 tc ad R⟩) rfl rfl rfl (Nat.le_of_ble_eq_true rfl) ⟨Nat.le_of_ble_eq_true rfl, Nat.le_of_ble_eq_true rfl⟩ ⟨Nat.zero_le _, Nat.zero_le _⟩ dX13_flour_3 (fun r2 M1 h => ?_)
  exact ra_iret E hr dX13_flour_6 h
def f_X13_cleanPairs (p1 : Int32) (M : TM) (K : Int32 → TM → Prop) : Prop := f_X13_told p1 (4 : Int32) M (fun r2 M1 => K r2 M1)
set_option maxRecDepth 100000 in
set_option maxHeartbeats 4000000 in
theorem c_X13_cleanPairs {ad : Nat → Nat} (p1 : Int32) (M : TM) (K : Int32 → TM → Prop) (h : f_X13_cleanPairs p1 M K) : MI yX13_cleanPairs cX13_cleanPairs 2 (some .int) 3 ad [.ref (ad 699), .int p1] M K := by
  refine MI_of RX13 rfl (by decide +kernel) (Nat.le_of_ble_eq_true rfl) (fun p l e s m below meth c D tc E hr => ?_)
  unfold f_X13_cleanPairs at h
  refine ra_aload_n E dX13_cleanPairs_0 rfl 0 rfl ?_
  refine ra_iload_n E dX13_cleanPairs_1 rfl 1 rfl ?_
  refine ra_iconst E dX13_cleanPairs_2 ki_4 ?_
  refine ra_callIV (rest := []) E (c_X13_told _ _ _ _ h) lq_13 cv_X13_told ml_X13_143 (by decide) (lmM (by decide)) (fun R => ⟨_, cel_699 tc ad R⟩) rfl rfl rfl (Nat.le_of_ble_eq_true rfl) ⟨Nat.le_of_ble_eq_true rfl, Nat.le_of_ble_eq_true rfl⟩ ⟨Nat.zero_le _, Nat.zero_le _⟩ dX13_cleanPairs_3 (fun r2 M1 h => ?_)
  exact ra_iret E hr dX13_cleanPairs_6 h
def f_X13_dirtyPairs (p1 : Int32) (M : TM) (K : Int32 → TM → Prop) : Prop := f_X13_told p1 (5 : Int32) M (fun r2 M1 => K r2 M1)
set_option maxRecDepth 100000 in
set_option maxHeartbeats 4000000 in
theorem c_X13_dirtyPairs {ad : Nat → Nat} (p1 : Int32) (M : TM) (K : Int32 → TM → Prop) (h : f_X13_dirtyPairs p1 M K) : MI yX13_dirtyPairs cX13_dirtyPairs 2 (some .int) 3 ad [.ref (ad 699), .int p1] M K := by
  refine MI_of RX13 rfl (by decide +kernel) (Nat.le_of_ble_eq_true rfl) (fun p l e s m below meth c D tc E hr => ?_)
  unfold f_X13_dirtyPairs at h
  refine ra_aload_n E dX13_dirtyPairs_0 rfl 0 rfl ?_
  refine ra_iload_n E dX13_dirtyPairs_1 rfl 1 rfl ?_
  refine ra_iconst E dX13_dirtyPairs_2 ki_5 ?_
  refine ra_callIV (rest := []) E (c_X13_told _ _ _ _ h) lq_13 cv_X13_told ml_X13_143 (by decide) (lmM (by decide)) (fun R => ⟨_, cel_699 tc ad R⟩) rfl rfl rfl (Nat.le_of_ble_eq_true rfl) ⟨Nat.le_of_ble_eq_true rfl, Nat.le_of_ble_eq_true rfl⟩ ⟨Nat.zero_le _, Nat.zero_le _⟩ dX13_dirtyPairs_3 (fun r2 M1 h => ?_)
  exact ra_iret E hr dX13_dirtyPairs_6 h
def f_X13_queueLength (p1 : Int32) (M : TM) (K : Int32 → TM → Prop) : Prop := f_X13_isBarge p1 M (fun r2 M1 => f_X13_lacks r2 M1 (fun r5 M4 => ((r5 = 0 → f_X13_countOf p1 (1 : Int32) M4 (fun r9 M8 => K r9 M8)) ∧ (¬ r5 = 0 → K (0 : Int32) M4))))
set_option maxRecDepth 100000 in
set_option maxHeartbeats 4000000 in
theorem c_X13_queueLength {ad : Nat → Nat} (p1 : Int32) (M : TM) (K : Int32 → TM → Prop) (h : f_X13_queueLength p1 M K) : MI yX13_queueLength cX13_queueLength 2 (some .int) 4 ad [.ref (ad 699), .int p1] M K := by
  refine MI_of RX13 rfl (by decide +kernel) (Nat.le_of_ble_eq_true rfl) (fun p l e s m below meth c D tc E hr => ?_)
  unfold f_X13_queueLength at h
  refine ra_aload_n E dX13_queueLength_0 rfl 0 rfl ?_
  refine ra_aload_n E dX13_queueLength_1 rfl 0 rfl ?_
  refine ra_iload_n E dX13_queueLength_2 rfl 1 rfl ?_
  refine ra_callIV (rest := [_]) E (c_X13_isBarge _ _ _ h) lq_13 cv_X13_isBarge ml_X13_140 (by decide) (lmM (by decide)) (fun R => ⟨_, cel_699 tc ad R⟩) rfl rfl rfl (Nat.le_of_ble_eq_true rfl) ⟨Nat.le_of_ble_eq_true rfl, Nat.le_of_ble_eq_true rfl⟩ ⟨Nat.zero_le _, Nat.zero_le _⟩ dX13_queueLength_3 (fun r2 M1 h => ?_)
  obtain ⟨b3, h⟩ := h
  refine ra_callIV (rest := []) E (c_X13_lacks _ _ _ h) lq_13 cv_X13_lacks ml_X13_82 (by decide) (lmM (by decide)) (fun R => ⟨_, cel_699 tc ad R⟩) rfl rfl rfl (Nat.le_of_ble_eq_true rfl) ⟨Nat.le_of_ble_eq_true rfl, Nat.le_of_ble_eq_true rfl⟩ ⟨Nat.zero_le _, Nat.zero_le _⟩ dX13_queueLength_6 (fun r5 M4 h => ?_)
  obtain ⟨b6, h⟩ := h
  refine ra_if_eq (tgt := 16) E dX13_queueLength_9 (by decide) (fun q7 => ?_) (fun q7 => ?_)
  · replace h := h.1 q7
    refine ra_aload_n E dX13_queueLength_16 rfl 0 rfl ?_
    refine ra_iload_n E dX13_queueLength_17 rfl 1 rfl ?_
    refine ra_iconst E dX13_queueLength_18 ki_1 ?_
    refine ra_callIV (rest := []) E (c_X13_countOf _ _ _ _ h) lq_13 cv_X13_countOf ml_X13_146 (by decide) (lmM (by decide)) (fun R => ⟨_, cel_699 tc ad R⟩) rfl rfl rfl (Nat.le_of_ble_eq_true rfl) ⟨Nat.le_of_ble_eq_true rfl, Nat.le_of_ble_eq_true rfl⟩ ⟨Nat.zero_le _, Nat.zero_le _⟩ dX13_queueLength_19 (fun r9 M8 h => ?_)
    exact ra_iret E hr dX13_queueLength_22 h
  · replace h := h.2 q7
    refine ra_iconst E dX13_queueLength_12 ki_0 ?_
    refine ra_goto (tgt := 22) E dX13_queueLength_13 (by decide) ?_
    exact ra_iret E hr dX13_queueLength_22 h
def f_X13_queuedOrder (p1 : Int32) (p2 : Int32) (M : TM) (K : Int32 → TM → Prop) : Prop := f_X13_isBarge p1 M (fun r2 M1 => f_X13_lacks r2 M1 (fun r5 M4 => ((r5 = 0 → f_X13_queued p1 p2 M4 (fun r9 M8 => K r9 M8)) ∧ (¬ r5 = 0 → K (0 : Int32) M4))))
set_option maxRecDepth 100000 in
set_option maxHeartbeats 4000000 in
theorem c_X13_queuedOrder {ad : Nat → Nat} (p1 : Int32) (p2 : Int32) (M : TM) (K : Int32 → TM → Prop) (h : f_X13_queuedOrder p1 p2 M K) : MI yX13_queuedOrder cX13_queuedOrder 3 (some .int) 5 ad [.ref (ad 699), .int p1, .int p2] M K := by
  refine MI_of RX13 rfl (by decide +kernel) (Nat.le_of_ble_eq_true rfl) (fun p l e s m below meth c D tc E hr => ?_)
  unfold f_X13_queuedOrder at h
  refine ra_aload_n E dX13_queuedOrder_0 rfl 0 rfl ?_
  refine ra_aload_n E dX13_queuedOrder_1 rfl 0 rfl ?_
  refine ra_iload_n E dX13_queuedOrder_2 rfl 1 rfl ?_
  refine ra_callIV (rest := [_]) E (c_X13_isBarge _ _ _ h) lq_13 cv_X13_isBarge ml_X13_140 (by decide) (lmM (by decide)) (fun R => ⟨_, cel_699 tc ad R⟩) rfl rfl rfl (Nat.le_of_ble_eq_true rfl) ⟨Nat.le_of_ble_eq_true rfl, Nat.le_of_ble_eq_true rfl⟩ ⟨Nat.zero_le _, Nat.zero_le _⟩ dX13_queuedOrder_3 (fun r2 M1 h => ?_)
  obtain ⟨b3, h⟩ := h
  refine ra_callIV (rest := []) E (c_X13_lacks _ _ _ h) lq_13 cv_X13_lacks ml_X13_82 (by decide) (lmM (by decide)) (fun R => ⟨_, cel_699 tc ad R⟩) rfl rfl rfl (Nat.le_of_ble_eq_true rfl) ⟨Nat.le_of_ble_eq_true rfl, Nat.le_of_ble_eq_true rfl⟩ ⟨Nat.zero_le _, Nat.zero_le _⟩ dX13_queuedOrder_6 (fun r5 M4 h => ?_)
  obtain ⟨b6, h⟩ := h
  refine ra_if_eq (tgt := 16) E dX13_queuedOrder_9 (by decide) (fun q7 => ?_) (fun q7 => ?_)
  · replace h := h.1 q7
    refine ra_aload_n E dX13_queuedOrder_16 rfl 0 rfl ?_
    refine ra_iload_n E dX13_queuedOrder_17 rfl 1 rfl ?_
    refine ra_iload_n E dX13_queuedOrder_18 rfl 2 rfl ?_
    refine ra_callIV (rest := []) E (c_X13_queued _ _ _ _ h) lq_13 cv_X13_queued ml_X13_149 (by decide) (lmM (by decide)) (fun R => ⟨_, cel_699 tc ad R⟩) rfl rfl rfl (Nat.le_of_ble_eq_true rfl) ⟨Nat.le_of_ble_eq_true rfl, Nat.le_of_ble_eq_true rfl⟩ ⟨Nat.zero_le _, Nat.zero_le _⟩ dX13_queuedOrder_19 (fun r9 M8 h => ?_)
    exact ra_iret E hr dX13_queuedOrder_22 h
  · replace h := h.2 q7
    refine ra_iconst E dX13_queuedOrder_12 ki_0 ?_
    refine ra_goto (tgt := 22) E dX13_queuedOrder_13 (by decide) ?_
    exact ra_iret E hr dX13_queuedOrder_22 h
def f_X13_readyCount (p1 : Int32) (M : TM) (K : Int32 → TM → Prop) : Prop := f_X13_isBarge p1 M (fun r2 M1 => f_X13_lacks r2 M1 (fun r5 M4 => ((r5 = 0 → f_X13_countOf p1 (2 : Int32) M4 (fun r9 M8 => K r9 M8)) ∧ (¬ r5 = 0 → K (0 : Int32) M4))))
set_option maxRecDepth 100000 in
set_option maxHeartbeats 4000000 in
theorem c_X13_readyCount {ad : Nat → Nat} (p1 : Int32) (M : TM) (K : Int32 → TM → Prop) (h : f_X13_readyCount p1 M K) : MI yX13_readyCount cX13_readyCount 2 (some .int) 4 ad [.ref (ad 699), .int p1] M K := by
  refine MI_of RX13 rfl (by decide +kernel) (Nat.le_of_ble_eq_true rfl) (fun p l e s m below meth c D tc E hr => ?_)
  unfold f_X13_readyCount at h
  refine ra_aload_n E dX13_readyCount_0 rfl 0 rfl ?_
  refine ra_aload_n E dX13_readyCount_1 rfl 0 rfl ?_
  refine ra_iload_n E dX13_readyCount_2 rfl 1 rfl ?_
  refine ra_callIV (rest := [_]) E (c_X13_isBarge _ _ _ h) lq_13 cv_X13_isBarge ml_X13_140 (by decide) (lmM (by decide)) (fun R => ⟨_, cel_699 tc ad R⟩) rfl rfl rfl (Nat.le_of_ble_eq_true rfl) ⟨Nat.le_of_ble_eq_true rfl, Nat.le_of_ble_eq_true rfl⟩ ⟨Nat.zero_le _, Nat.zero_le _⟩ dX13_readyCount_3 (fun r2 M1 h => ?_)
  obtain ⟨b3, h⟩ := h
  refine ra_callIV (rest := []) E (c_X13_lacks _ _ _ h) lq_13 cv_X13_lacks ml_X13_82 (by decide) (lmM (by decide)) (fun R => ⟨_, cel_699 tc ad R⟩) rfl rfl rfl (Nat.le_of_ble_eq_true rfl) ⟨Nat.le_of_ble_eq_true rfl, Nat.le_of_ble_eq_true rfl⟩ ⟨Nat.zero_le _, Nat.zero_le _⟩ dX13_readyCount_6 (fun r5 M4 h => ?_)
  obtain ⟨b6, h⟩ := h
  refine ra_if_eq (tgt := 16) E dX13_readyCount_9 (by decide) (fun q7 => ?_) (fun q7 => ?_)
  · replace h := h.1 q7
    refine ra_aload_n E dX13_readyCount_16 rfl 0 rfl ?_
    refine ra_iload_n E dX13_readyCount_17 rfl 1 rfl ?_
    refine ra_iconst E dX13_readyCount_18 ki_2 ?_
    refine ra_callIV (rest := []) E (c_X13_countOf _ _ _ _ h) lq_13 cv_X13_countOf ml_X13_146 (by decide) (lmM (by decide)) (fun R => ⟨_, cel_699 tc ad R⟩) rfl rfl rfl (Nat.le_of_ble_eq_true rfl) ⟨Nat.le_of_ble_eq_true rfl, Nat.le_of_ble_eq_true rfl⟩ ⟨Nat.zero_le _, Nat.zero_le _⟩ dX13_readyCount_19 (fun r9 M8 h => ?_)
    exact ra_iret E hr dX13_readyCount_22 h
  · replace h := h.2 q7
    refine ra_iconst E dX13_readyCount_12 ki_0 ?_
    refine ra_goto (tgt := 22) E dX13_readyCount_13 (by decide) ?_
    exact ra_iret E hr dX13_readyCount_22 h
def f_X13_flourNeeded_L18 (p1 : Int32) (K : Int32 → TM → Prop) : Nat → Int32 → Int32 → Int32 → TM → Prop
  | 0, _, _, _, _ => False
  | n + 1, x1, x2, x3, M => vp_in (M 699 6) 2 ∧ vp_in (3 : Int32) 377 ∧ (((M (700 + (M 699 6).toNatClampNeg) (3 : Int32).toNatClampNeg) ≤ x3 → K x2 M) ∧ (¬ (M (700 + (M 699 6).toNatClampNeg) (3 : Int32).toNatClampNeg) ≤ x3 → f_X13_belongs x3 x1 (1 : Int32) M (fun r12 M11 => ((r12 = 0 → f_X13_flourNeeded_L18 p1 K n x1 (x2 + (0 : Int32)) (x3 + 1) M11) ∧ (¬ r12 = 0 → f_X13_ofOrder x3 (6 : Int32) M11 (fun r17 M16 => ((¬ r17 = 0 → f_X13_flourNeeded_L18 p1 K n x1 (x2 + (0 : Int32)) (x3 + 1) M16) ∧ (r17 = 0 → f_X13_ofOrder x3 (1 : Int32) M16 (fun r22 M21 => f_X13_flourNeeded_L18 p1 K n x1 (x2 + r22) (x3 + 1) M21)))))))))
set_option maxRecDepth 100000 in
set_option maxHeartbeats 4000000 in
theorem l_X13_flourNeeded_L18 {p : Program} {l : Launch} {e : Env} {s : State} {m : MethodId} {args : Array Value} {below : List Frame} {meth : Method} {c : Code} {D : va_G} {tc : Nat → ClassId} {ad : Nat → Nat} (p1 : Int32) {K : Int32 → TM → Prop} (E : Ev p s m args meth c D tc ad RX13 cX13_flourNeeded 5) (hr : meth.sig.returnType = (some .int)) : ∀ (n : Nat) (x1 : Int32) (x2 : Int32) (x3 : Int32) (M : TM) , f_X13_flourNeeded_L18 p1 K n x1 x2 x3 M → Wa p l e (rmD 3) s m args below meth c 0 0 (MQ below (va_Qi K (EndW D tc ad) (A0 ad s.heap.size)) args s 0 0 (A0 ad s.heap.size)) D tc ad 5 M 18 [(0, .ref (ad 699)), (1, .int x1), (2, .int x2), (3, .int x3)] [] := by
  intro n
  induction n with
  | zero => intro x1 x2 x3 M  h; exact h.elim
  | succ n ih =>
    intro x1 x2 x3 M  h
    unfold f_X13_flourNeeded_L18 at h
    refine ra_iload_n E dX13_flourNeeded_18 rfl 3 rfl ?_
    refine ra_aload_n E dX13_flourNeeded_19 rfl 0 rfl ?_
    obtain ⟨g8, h⟩ := h
    refine gf_X13_6 E lm13 fl_X13_28 dX13_flourNeeded_20 ?_
    refine ra_iconst E dX13_flourNeeded_23 ki_3 ?_
    obtain ⟨g9, h⟩ := h
    refine ra_iald E (lmM (isRow_of g8).lt) (cel_row tc ad (isRow_of g8)) g9 dX13_flourNeeded_24 ?_
    refine ra_icmp_ge (tgt := 79) E dX13_flourNeeded_25 (by decide) (fun q10 => ?_) (fun q10 => ?_)
    · replace h := h.1 q10
      refine ra_iload_n E dX13_flourNeeded_79 rfl 2 rfl ?_
      exact ra_iret E hr dX13_flourNeeded_80 h
    · replace h := h.2 q10
      refine ra_aload_n E dX13_flourNeeded_28 rfl 0 rfl ?_
      refine ra_iload_n E dX13_flourNeeded_29 rfl 3 rfl ?_
      refine ra_iload_n E dX13_flourNeeded_30 rfl 1 rfl ?_
      refine ra_iconst E dX13_flourNeeded_31 ki_1 ?_
      refine ra_callIV (rest := []) E (c_X13_belongs _ _ _ _ _ h) lq_13 cv_X13_belongs ml_X13_119 (by decide) (lmM (by decide)) (fun R => ⟨_, cel_699 tc ad R⟩) rfl rfl rfl (Nat.le_of_ble_eq_true rfl) ⟨Nat.le_of_ble_eq_true rfl, Nat.le_of_ble_eq_true rfl⟩ ⟨Nat.zero_le _, Nat.zero_le _⟩ dX13_flourNeeded_32 (fun r12 M11 h => ?_)
      obtain ⟨b13, h⟩ := h
      refine ra_if_eq (tgt := 52) E dX13_flourNeeded_35 (by decide) (fun q14 => ?_) (fun q14 => ?_)
      · replace h := h.1 q14
        refine ra_iconst E dX13_flourNeeded_52 ki_0 ?_
        refine ra_istore (L' := [(4, _), (0, _), (1, _), (2, _), (3, _)]) E dX13_flourNeeded_53 (by decide) rfl ?_
        refine ra_iload_n E dX13_flourNeeded_55 rfl 3 rfl ?_
        refine ra_iload E dX13_flourNeeded_56 0 rfl ?_
        refine ra_if_eq (tgt := 70) E dX13_flourNeeded_58 (by decide) (fun _ => ?_) (fun q => absurd q (by decide))
        refine ra_iconst E dX13_flourNeeded_70 ki_0 ?_
        refine ra_iadd E dX13_flourNeeded_71 ?_
        refine ra_istore_n (L' := [(2, _), (4, _), (0, _), (1, _), (3, _)]) E dX13_flourNeeded_72 rfl (by decide) rfl ?_
        refine ra_iinc1 (L' := [(3, _), (2, _), (4, _), (0, _), (1, _)]) E dX13_flourNeeded_73 4 rfl (by decide) rfl ?_
        refine ra_goto (tgt := 18) E dX13_flourNeeded_76 (by decide) ?_
        exact ra_sub (L' := [(0, _), (1, _), (2, _), (3, _)]) [3, 4, 1, 0] rfl (ih _ _ _ _ h)
      · replace h := h.2 q14
        refine ra_aload_n E dX13_flourNeeded_38 rfl 0 rfl ?_
        refine ra_iload_n E dX13_flourNeeded_39 rfl 3 rfl ?_
        refine ra_bipush E dX13_flourNeeded_40 kb_6 ?_
        refine ra_callIV (rest := []) E (c_X13_ofOrder _ _ _ _ h) lq_13 cv_X13_ofOrder ml_X13_101 (by decide) (lmM (by decide)) (fun R => ⟨_, cel_699 tc ad R⟩) rfl rfl rfl (Nat.le_of_ble_eq_true rfl) ⟨Nat.le_of_ble_eq_true rfl, Nat.le_of_ble_eq_true rfl⟩ ⟨Nat.zero_le _, Nat.zero_le _⟩ dX13_flourNeeded_42 (fun r17 M16 h => ?_)
        refine ra_if_ne (tgt := 52) E dX13_flourNeeded_45 (by decide) (fun q18 => ?_) (fun q18 => ?_)
        · replace h := h.1 q18
          refine ra_iconst E dX13_flourNeeded_52 ki_0 ?_
          refine ra_istore (L' := [(4, _), (0, _), (1, _), (2, _), (3, _)]) E dX13_flourNeeded_53 (by decide) rfl ?_
          refine ra_iload_n E dX13_flourNeeded_55 rfl 3 rfl ?_
          refine ra_iload E dX13_flourNeeded_56 0 rfl ?_
          refine ra_if_eq (tgt := 70) E dX13_flourNeeded_58 (by decide) (fun _ => ?_) (fun q => absurd q (by decide))
          refine ra_iconst E dX13_flourNeeded_70 ki_0 ?_
          refine ra_iadd E dX13_flourNeeded_71 ?_
          refine ra_istore_n (L' := [(2, _), (4, _), (0, _), (1, _), (3, _)]) E dX13_flourNeeded_72 rfl (by decide) rfl ?_
          refine ra_iinc1 (L' := [(3, _), (2, _), (4, _), (0, _), (1, _)]) E dX13_flourNeeded_73 4 rfl (by decide) rfl ?_
          refine ra_goto (tgt := 18) E dX13_flourNeeded_76 (by decide) ?_
          exact ra_sub (L' := [(0, _), (1, _), (2, _), (3, _)]) [3, 4, 1, 0] rfl (ih _ _ _ _ h)
        · replace h := h.2 q18
          refine ra_iconst E dX13_flourNeeded_48 ki_1 ?_
          refine ra_goto (tgt := 53) E dX13_flourNeeded_49 (by decide) ?_
          refine ra_istore (L' := [(4, _), (0, _), (1, _), (2, _), (3, _)]) E dX13_flourNeeded_53 (by decide) rfl ?_
          refine ra_iload_n E dX13_flourNeeded_55 rfl 3 rfl ?_
          refine ra_iload E dX13_flourNeeded_56 0 rfl ?_
          refine ra_if_eq (tgt := 70) E dX13_flourNeeded_58 (by decide) (fun q => absurd q (by decide)) (fun _ => ?_)
          refine ra_aload_n E dX13_flourNeeded_61 rfl 1 rfl ?_
          refine ra_iload_n E dX13_flourNeeded_62 rfl 4 rfl ?_
          refine ra_iconst E dX13_flourNeeded_63 ki_1 ?_
          refine ra_callIV (rest := [_]) E (c_X13_ofOrder _ _ _ _ h) lq_13 cv_X13_ofOrder ml_X13_101 (by decide) (lmM (by decide)) (fun R => ⟨_, cel_699 tc ad R⟩) rfl rfl rfl (Nat.le_of_ble_eq_true rfl) ⟨Nat.le_of_ble_eq_true rfl, Nat.le_of_ble_eq_true rfl⟩ ⟨Nat.zero_le _, Nat.zero_le _⟩ dX13_flourNeeded_64 (fun r22 M21 h => ?_)
          refine ra_goto (tgt := 71) E dX13_flourNeeded_67 (by decide) ?_
          refine ra_iadd E dX13_flourNeeded_71 ?_
          refine ra_istore_n (L' := [(2, _), (4, _), (0, _), (1, _), (3, _)]) E dX13_flourNeeded_72 rfl (by decide) rfl ?_
          refine ra_iinc1 (L' := [(3, _), (2, _), (4, _), (0, _), (1, _)]) E dX13_flourNeeded_73 4 rfl (by decide) rfl ?_
          refine ra_goto (tgt := 18) E dX13_flourNeeded_76 (by decide) ?_
          exact ra_sub (L' := [(0, _), (1, _), (2, _), (3, _)]) [3, 4, 1, 0] rfl (ih _ _ _ _ h)
def f_X13_flourNeeded (p1 : Int32) (M : TM) (K : Int32 → TM → Prop) : Prop := f_X13_isBarge p1 M (fun r2 M1 => f_X13_lacks r2 M1 (fun r5 M4 => ((r5 = 0 → ∃ n, f_X13_flourNeeded_L18 p1 K n p1 (0 : Int32) (0 : Int32) M4) ∧ (¬ r5 = 0 → K (0 : Int32) M4))))
set_option maxRecDepth 100000 in
set_option maxHeartbeats 4000000 in
theorem c_X13_flourNeeded {ad : Nat → Nat} (p1 : Int32) (M : TM) (K : Int32 → TM → Prop) (h : f_X13_flourNeeded p1 M K) : MI yX13_flourNeeded cX13_flourNeeded 5 (some .int) 3 ad [.ref (ad 699), .int p1] M K := by
  refine MI_of RX13 rfl (by decide +kernel) (Nat.le_of_ble_eq_true rfl) (fun p l e s m below meth c D tc E hr => ?_)
  unfold f_X13_flourNeeded at h
  refine ra_aload_n E dX13_flourNeeded_0 rfl 0 rfl ?_
  refine ra_aload_n E dX13_flourNeeded_1 rfl 0 rfl ?_
  refine ra_iload_n E dX13_flourNeeded_2 rfl 1 rfl ?_
  refine ra_callIV (rest := [_]) E (c_X13_isBarge _ _ _ h) lq_13 cv_X13_isBarge ml_X13_140 (by decide) (lmM (by decide)) (fun R => ⟨_, cel_699 tc ad R⟩) rfl rfl rfl (Nat.le_of_ble_eq_true rfl) ⟨Nat.le_of_ble_eq_true rfl, Nat.le_of_ble_eq_true rfl⟩ ⟨Nat.zero_le _, Nat.zero_le _⟩ dX13_flourNeeded_3 (fun r2 M1 h => ?_)
  obtain ⟨b3, h⟩ := h
  refine ra_callIV (rest := []) E (c_X13_lacks _ _ _ h) lq_13 cv_X13_lacks ml_X13_82 (by decide) (lmM (by decide)) (fun R => ⟨_, cel_699 tc ad R⟩) rfl rfl rfl (Nat.le_of_ble_eq_true rfl) ⟨Nat.le_of_ble_eq_true rfl, Nat.le_of_ble_eq_true rfl⟩ ⟨Nat.zero_le _, Nat.zero_le _⟩ dX13_flourNeeded_6 (fun r5 M4 h => ?_)
  obtain ⟨b6, h⟩ := h
  refine ra_if_eq (tgt := 14) E dX13_flourNeeded_9 (by decide) (fun q7 => ?_) (fun q7 => ?_)
  · replace h := h.1 q7
    refine ra_iconst E dX13_flourNeeded_14 ki_0 ?_
    refine ra_istore_n (L' := [(2, _), (0, _), (1, _)]) E dX13_flourNeeded_15 rfl (by decide) rfl ?_
    refine ra_iconst E dX13_flourNeeded_16 ki_0 ?_
    refine ra_istore_n (L' := [(3, _), (2, _), (0, _), (1, _)]) E dX13_flourNeeded_17 rfl (by decide) rfl ?_
    obtain ⟨n23, h⟩ := h
    exact ra_sub (L' := [(0, _), (1, _), (2, _), (3, _)]) [2, 3, 1, 0] rfl (l_X13_flourNeeded_L18 p1 E hr n23 _ _ _ _ h)
  · replace h := h.2 q7
    refine ra_iconst E dX13_flourNeeded_12 ki_0 ?_
    exact ra_iret E hr dX13_flourNeeded_13 h
def f_X13_toldOrder (p1 : Int32) (p2 : Int32) (M : TM) (K : Int32 → TM → Prop) : Prop := f_X13_isOrder p1 M (fun r2 M1 => f_X13_lacks r2 M1 (fun r5 M4 => ((r5 = 0 → f_X13_ofOrder p1 p2 M4 (fun r9 M8 => K r9 M8)) ∧ (¬ r5 = 0 → K (0 : Int32) M4))))
set_option maxRecDepth 100000 in
set_option maxHeartbeats 4000000 in
theorem c_X13_toldOrder {ad : Nat → Nat} (p1 : Int32) (p2 : Int32) (M : TM) (K : Int32 → TM → Prop) (h : f_X13_toldOrder p1 p2 M K) : MI yX13_toldOrder cX13_toldOrder 3 (some .int) 2 ad [.ref (ad 699), .int p1, .int p2] M K := by
  refine MI_of RX13 rfl (by decide +kernel) (Nat.le_of_ble_eq_true rfl) (fun p l e s m below meth c D tc E hr => ?_)
  unfold f_X13_toldOrder at h
  refine ra_aload_n E dX13_toldOrder_0 rfl 0 rfl ?_
  refine ra_aload_n E dX13_toldOrder_1 rfl 0 rfl ?_
  refine ra_iload_n E dX13_toldOrder_2 rfl 1 rfl ?_
  refine ra_callIV (rest := [_]) E (c_X13_isOrder _ _ _ h) lq_13 cv_X13_isOrder ml_X13_152 (by decide) (lmM (by decide)) (fun R => ⟨_, cel_699 tc ad R⟩) rfl rfl rfl (Nat.le_of_ble_eq_true rfl) ⟨Nat.le_of_ble_eq_true rfl, Nat.le_of_ble_eq_true rfl⟩ ⟨Nat.zero_le _, Nat.zero_le _⟩ dX13_toldOrder_3 (fun r2 M1 h => ?_)
  obtain ⟨b3, h⟩ := h
  refine ra_callIV (rest := []) E (c_X13_lacks _ _ _ h) lq_13 cv_X13_lacks ml_X13_82 (by decide) (lmM (by decide)) (fun R => ⟨_, cel_699 tc ad R⟩) rfl rfl rfl (Nat.le_of_ble_eq_true rfl) ⟨Nat.le_of_ble_eq_true rfl, Nat.le_of_ble_eq_true rfl⟩ ⟨Nat.zero_le _, Nat.zero_le _⟩ dX13_toldOrder_6 (fun r5 M4 h => ?_)
  obtain ⟨b6, h⟩ := h
  refine ra_if_eq (tgt := 16) E dX13_toldOrder_9 (by decide) (fun q7 => ?_) (fun q7 => ?_)
  · replace h := h.1 q7
    refine ra_aload_n E dX13_toldOrder_16 rfl 0 rfl ?_
    refine ra_iload_n E dX13_toldOrder_17 rfl 1 rfl ?_
    refine ra_iload_n E dX13_toldOrder_18 rfl 2 rfl ?_
    refine ra_callIV (rest := []) E (c_X13_ofOrder _ _ _ _ h) lq_13 cv_X13_ofOrder ml_X13_101 (by decide) (lmM (by decide)) (fun R => ⟨_, cel_699 tc ad R⟩) rfl rfl rfl (Nat.le_of_ble_eq_true rfl) ⟨Nat.le_of_ble_eq_true rfl, Nat.le_of_ble_eq_true rfl⟩ ⟨Nat.zero_le _, Nat.zero_le _⟩ dX13_toldOrder_19 (fun r9 M8 h => ?_)
    exact ra_iret E hr dX13_toldOrder_22 h
  · replace h := h.2 q7
    refine ra_iconst E dX13_toldOrder_12 ki_0 ?_
    refine ra_goto (tgt := 22) E dX13_toldOrder_13 (by decide) ?_
    exact ra_iret E hr dX13_toldOrder_22 h
def f_X13_toldIn (p1 : Int32) (p2 : Int32) (M : TM) (K : Int32 → TM → Prop) : Prop := f_X13_isOrder p1 M (fun r2 M1 => f_X13_lacks r2 M1 (fun r5 M4 => ((¬ r5 = 0 → K (0 : Int32) M4) ∧ (r5 = 0 → f_X13_isIn p1 p2 M4 (fun r9 M8 => ((r9 = 0 → K (0 : Int32) M8) ∧ (¬ r9 = 0 → K (1 : Int32) M8)))))))
set_option maxRecDepth 100000 in
set_option maxHeartbeats 4000000 in
theorem c_X13_toldIn {ad : Nat → Nat} (p1 : Int32) (p2 : Int32) (M : TM) (K : Int32 → TM → Prop) (h : f_X13_toldIn p1 p2 M K) : MI yX13_toldIn cX13_toldIn 3 (some .boolean) 2 ad [.ref (ad 699), .int p1, .int p2] M (fun r M' => (r = 0 ∨ r = 1) ∧ K r M') := by
  refine MI_of RX13 rfl (by decide +kernel) (Nat.le_of_ble_eq_true rfl) (fun p l e s m below meth c D tc E hr => ?_)
  unfold f_X13_toldIn at h
  refine ra_aload_n E dX13_toldIn_0 rfl 0 rfl ?_
  refine ra_aload_n E dX13_toldIn_1 rfl 0 rfl ?_
  refine ra_iload_n E dX13_toldIn_2 rfl 1 rfl ?_
  refine ra_callIV (rest := [_]) E (c_X13_isOrder _ _ _ h) lq_13 cv_X13_isOrder ml_X13_152 (by decide) (lmM (by decide)) (fun R => ⟨_, cel_699 tc ad R⟩) rfl rfl rfl (Nat.le_of_ble_eq_true rfl) ⟨Nat.le_of_ble_eq_true rfl, Nat.le_of_ble_eq_true rfl⟩ ⟨Nat.zero_le _, Nat.zero_le _⟩ dX13_toldIn_3 (fun r2 M1 h => ?_)
  obtain ⟨b3, h⟩ := h
  refine ra_callIV (rest := []) E (c_X13_lacks _ _ _ h) lq_13 cv_X13_lacks ml_X13_82 (by decide) (lmM (by decide)) (fun R => ⟨_, cel_699 tc ad R⟩) rfl rfl rfl (Nat.le_of_ble_eq_true rfl) ⟨Nat.le_of_ble_eq_true rfl, Nat.le_of_ble_eq_true rfl⟩ ⟨Nat.zero_le _, Nat.zero_le _⟩ dX13_toldIn_6 (fun r5 M4 h => ?_)
  obtain ⟨b6, h⟩ := h
  refine ra_if_ne (tgt := 25) E dX13_toldIn_9 (by decide) (fun q7 => ?_) (fun q7 => ?_)
  · replace h := h.1 q7
    refine ra_iconst E dX13_toldIn_25 ki_0 ?_
    exact ra_zret E hr rfl dX13_toldIn_26 ⟨Or.inl rfl, h⟩
  · replace h := h.2 q7
    refine ra_aload_n E dX13_toldIn_12 rfl 0 rfl ?_
    refine ra_iload_n E dX13_toldIn_13 rfl 1 rfl ?_
    refine ra_iload_n E dX13_toldIn_14 rfl 2 rfl ?_
    refine ra_callIV (rest := []) E (c_X13_isIn _ _ _ _ h) lq_13 cv_X13_isIn ml_X13_116 (by decide) (lmM (by decide)) (fun R => ⟨_, cel_699 tc ad R⟩) rfl rfl rfl (Nat.le_of_ble_eq_true rfl) ⟨Nat.le_of_ble_eq_true rfl, Nat.le_of_ble_eq_true rfl⟩ ⟨Nat.zero_le _, Nat.zero_le _⟩ dX13_toldIn_15 (fun r9 M8 h => ?_)
    obtain ⟨b10, h⟩ := h
    refine ra_if_eq (tgt := 25) E dX13_toldIn_18 (by decide) (fun q11 => ?_) (fun q11 => ?_)
    · replace h := h.1 q11
      refine ra_iconst E dX13_toldIn_25 ki_0 ?_
      exact ra_zret E hr rfl dX13_toldIn_26 ⟨Or.inl rfl, h⟩
    · replace h := h.2 q11
      refine ra_iconst E dX13_toldIn_21 ki_1 ?_
      refine ra_goto (tgt := 26) E dX13_toldIn_22 (by decide) ?_
      exact ra_zret E hr rfl dX13_toldIn_26 ⟨Or.inr rfl, h⟩
def f_X13_orderCount  (M : TM) (K : Int32 → TM → Prop) : Prop := ∀ M1, M1 = u2 M 699 8 (0 : Int32) → vp_in (M1 699 6) 2 ∧ vp_in (3 : Int32) 377 ∧ K (M1 (700 + (M1 699 6).toNatClampNeg) (3 : Int32).toNatClampNeg) M1
set_option maxRecDepth 100000 in
set_option maxHeartbeats 4000000 in
theorem c_X13_orderCount {ad : Nat → Nat}  (M : TM) (K : Int32 → TM → Prop) (h : f_X13_orderCount  M K) : MI yX13_orderCount cX13_orderCount 1 (some .int) 0 ad [.ref (ad 699)] M K := by
  refine MI_of RX13 rfl (by decide +kernel) (Nat.le_of_ble_eq_true rfl) (fun p l e s m below meth c D tc E hr => ?_)
  unfold f_X13_orderCount at h
  refine ra_aload_n E dX13_orderCount_0 rfl 0 rfl ?_
  refine ra_iconst E dX13_orderCount_1 ki_0 ?_
  refine pf_X13_8 E lm13 fl_X13_79 dX13_orderCount_2 ?_
  replace h := h _ rfl
  refine ra_aload_n E dX13_orderCount_5 rfl 0 rfl ?_
  obtain ⟨g2, h⟩ := h
  refine gf_X13_6 E lm13 fl_X13_28 dX13_orderCount_6 ?_
  refine ra_iconst E dX13_orderCount_9 ki_3 ?_
  obtain ⟨g3, h⟩ := h
  refine ra_iald E (lmM (isRow_of g2).lt) (cel_row tc ad (isRow_of g2)) g3 dX13_orderCount_10 ?_
  exact ra_iret E hr dX13_orderCount_11 h
def f_X13_orderPlace (p1 : Int32) (M : TM) (K : Int32 → TM → Prop) : Prop := f_X13_toldOrder p1 (0 : Int32) M (fun r2 M1 => K r2 M1)
set_option maxRecDepth 100000 in
set_option maxHeartbeats 4000000 in
theorem c_X13_orderPlace {ad : Nat → Nat} (p1 : Int32) (M : TM) (K : Int32 → TM → Prop) (h : f_X13_orderPlace p1 M K) : MI yX13_orderPlace cX13_orderPlace 2 (some .int) 3 ad [.ref (ad 699), .int p1] M K := by
  refine MI_of RX13 rfl (by decide +kernel) (Nat.le_of_ble_eq_true rfl) (fun p l e s m below meth c D tc E hr => ?_)
  unfold f_X13_orderPlace at h
  refine ra_aload_n E dX13_orderPlace_0 rfl 0 rfl ?_
  refine ra_iload_n E dX13_orderPlace_1 rfl 1 rfl ?_
  refine ra_iconst E dX13_orderPlace_2 ki_0 ?_
  refine ra_callIV (rest := []) E (c_X13_toldOrder _ _ _ _ h) lq_13 cv_X13_toldOrder ml_X13_155 (by decide) (lmM (by decide)) (fun R => ⟨_, cel_699 tc ad R⟩) rfl rfl rfl (Nat.le_of_ble_eq_true rfl) ⟨Nat.le_of_ble_eq_true rfl, Nat.le_of_ble_eq_true rfl⟩ ⟨Nat.zero_le _, Nat.zero_le _⟩ dX13_orderPlace_3 (fun r2 M1 h => ?_)
  exact ra_iret E hr dX13_orderPlace_6 h
def f_X13_bowls (p1 : Int32) (M : TM) (K : Int32 → TM → Prop) : Prop := f_X13_toldOrder p1 (1 : Int32) M (fun r2 M1 => K r2 M1)
set_option maxRecDepth 100000 in
set_option maxHeartbeats 4000000 in
theorem c_X13_bowls {ad : Nat → Nat} (p1 : Int32) (M : TM) (K : Int32 → TM → Prop) (h : f_X13_bowls p1 M K) : MI yX13_bowls cX13_bowls 2 (some .int) 3 ad [.ref (ad 699), .int p1] M K := by
  refine MI_of RX13 rfl (by decide +kernel) (Nat.le_of_ble_eq_true rfl) (fun p l e s m below meth c D tc E hr => ?_)
  unfold f_X13_bowls at h
  refine ra_aload_n E dX13_bowls_0 rfl 0 rfl ?_
  refine ra_iload_n E dX13_bowls_1 rfl 1 rfl ?_
  refine ra_iconst E dX13_bowls_2 ki_1 ?_
  refine ra_callIV (rest := []) E (c_X13_toldOrder _ _ _ _ h) lq_13 cv_X13_toldOrder ml_X13_155 (by decide) (lmM (by decide)) (fun R => ⟨_, cel_699 tc ad R⟩) rfl rfl rfl (Nat.le_of_ble_eq_true rfl) ⟨Nat.le_of_ble_eq_true rfl, Nat.le_of_ble_eq_true rfl⟩ ⟨Nat.zero_le _, Nat.zero_le _⟩ dX13_bowls_3 (fun r2 M1 h => ?_)
  exact ra_iret E hr dX13_bowls_6 h
def f_X13_pullsLeft (p1 : Int32) (M : TM) (K : Int32 → TM → Prop) : Prop := f_X13_toldOrder p1 (7 : Int32) M (fun r2 M1 => K r2 M1)
set_option maxRecDepth 100000 in
set_option maxHeartbeats 4000000 in
theorem c_X13_pullsLeft {ad : Nat → Nat} (p1 : Int32) (M : TM) (K : Int32 → TM → Prop) (h : f_X13_pullsLeft p1 M K) : MI yX13_pullsLeft cX13_pullsLeft 2 (some .int) 3 ad [.ref (ad 699), .int p1] M K := by
  refine MI_of RX13 rfl (by decide +kernel) (Nat.le_of_ble_eq_true rfl) (fun p l e s m below meth c D tc E hr => ?_)
  unfold f_X13_pullsLeft at h
  refine ra_aload_n E dX13_pullsLeft_0 rfl 0 rfl ?_
  refine ra_iload_n E dX13_pullsLeft_1 rfl 1 rfl ?_
  refine ra_bipush E dX13_pullsLeft_2 kb_7 ?_
  refine ra_callIV (rest := []) E (c_X13_toldOrder _ _ _ _ h) lq_13 cv_X13_toldOrder ml_X13_155 (by decide) (lmM (by decide)) (fun R => ⟨_, cel_699 tc ad R⟩) rfl rfl rfl (Nat.le_of_ble_eq_true rfl) ⟨Nat.le_of_ble_eq_true rfl, Nat.le_of_ble_eq_true rfl⟩ ⟨Nat.zero_le _, Nat.zero_le _⟩ dX13_pullsLeft_4 (fun r2 M1 h => ?_)
  exact ra_iret E hr dX13_pullsLeft_7 h
def f_X13_deadline (p1 : Int32) (M : TM) (K : Int32 → TM → Prop) : Prop := f_X13_toldOrder p1 (3 : Int32) M (fun r2 M1 => K r2 M1)
set_option maxRecDepth 100000 in
set_option maxHeartbeats 4000000 in
theorem c_X13_deadline {ad : Nat → Nat} (p1 : Int32) (M : TM) (K : Int32 → TM → Prop) (h : f_X13_deadline p1 M K) : MI yX13_deadline cX13_deadline 2 (some .int) 3 ad [.ref (ad 699), .int p1] M K := by
  refine MI_of RX13 rfl (by decide +kernel) (Nat.le_of_ble_eq_true rfl) (fun p l e s m below meth c D tc E hr => ?_)
  unfold f_X13_deadline at h
  refine ra_aload_n E dX13_deadline_0 rfl 0 rfl ?_
  refine ra_iload_n E dX13_deadline_1 rfl 1 rfl ?_
  refine ra_iconst E dX13_deadline_2 ki_3 ?_
  refine ra_callIV (rest := []) E (c_X13_toldOrder _ _ _ _ h) lq_13 cv_X13_toldOrder ml_X13_155 (by decide) (lmM (by decide)) (fun R => ⟨_, cel_699 tc ad R⟩) rfl rfl rfl (Nat.le_of_ble_eq_true rfl) ⟨Nat.le_of_ble_eq_true rfl, Nat.le_of_ble_eq_true rfl⟩ ⟨Nat.zero_le _, Nat.zero_le _⟩ dX13_deadline_3 (fun r2 M1 h => ?_)
  exact ra_iret E hr dX13_deadline_6 h
def f_X13_price (p1 : Int32) (M : TM) (K : Int32 → TM → Prop) : Prop := f_X13_isOrder p1 M (fun r2 M1 => f_X13_lacks r2 M1 (fun r5 M4 => ((r5 = 0 → f_X13_priceOf p1 M4 (fun r9 M8 => K r9 M8)) ∧ (¬ r5 = 0 → K (0 : Int32) M4))))
set_option maxRecDepth 100000 in
set_option maxHeartbeats 4000000 in
theorem c_X13_price {ad : Nat → Nat} (p1 : Int32) (M : TM) (K : Int32 → TM → Prop) (h : f_X13_price p1 M K) : MI yX13_price cX13_price 2 (some .int) 2 ad [.ref (ad 699), .int p1] M K := by
  refine MI_of RX13 rfl (by decide +kernel) (Nat.le_of_ble_eq_true rfl) (fun p l e s m below meth c D tc E hr => ?_)
  unfold f_X13_price at h
  refine ra_aload_n E dX13_price_0 rfl 0 rfl ?_
  refine ra_aload_n E dX13_price_1 rfl 0 rfl ?_
  refine ra_iload_n E dX13_price_2 rfl 1 rfl ?_
  refine ra_callIV (rest := [_]) E (c_X13_isOrder _ _ _ h) lq_13 cv_X13_isOrder ml_X13_152 (by decide) (lmM (by decide)) (fun R => ⟨_, cel_699 tc ad R⟩) rfl rfl rfl (Nat.le_of_ble_eq_true rfl) ⟨Nat.le_of_ble_eq_true rfl, Nat.le_of_ble_eq_true rfl⟩ ⟨Nat.zero_le _, Nat.zero_le _⟩ dX13_price_3 (fun r2 M1 h => ?_)
  obtain ⟨b3, h⟩ := h
  refine ra_callIV (rest := []) E (c_X13_lacks _ _ _ h) lq_13 cv_X13_lacks ml_X13_82 (by decide) (lmM (by decide)) (fun R => ⟨_, cel_699 tc ad R⟩) rfl rfl rfl (Nat.le_of_ble_eq_true rfl) ⟨Nat.le_of_ble_eq_true rfl, Nat.le_of_ble_eq_true rfl⟩ ⟨Nat.zero_le _, Nat.zero_le _⟩ dX13_price_6 (fun r5 M4 h => ?_)
  obtain ⟨b6, h⟩ := h
  refine ra_if_eq (tgt := 16) E dX13_price_9 (by decide) (fun q7 => ?_) (fun q7 => ?_)
  · replace h := h.1 q7
    refine ra_aload_n E dX13_price_16 rfl 0 rfl ?_
    refine ra_iload_n E dX13_price_17 rfl 1 rfl ?_
    refine ra_callIV (rest := []) E (c_X13_priceOf _ _ _ h) lq_13 cv_X13_priceOf ml_X13_158 (by decide) (lmM (by decide)) (fun R => ⟨_, cel_699 tc ad R⟩) rfl rfl rfl (Nat.le_of_ble_eq_true rfl) ⟨Nat.le_of_ble_eq_true rfl, Nat.le_of_ble_eq_true rfl⟩ ⟨Nat.zero_le _, Nat.zero_le _⟩ dX13_price_18 (fun r9 M8 h => ?_)
    exact ra_iret E hr dX13_price_21 h
  · replace h := h.2 q7
    refine ra_iconst E dX13_price_12 ki_0 ?_
    refine ra_goto (tgt := 21) E dX13_price_13 (by decide) ?_
    exact ra_iret E hr dX13_price_21 h
def f_X13_bargeOf (p1 : Int32) (M : TM) (K : Int32 → TM → Prop) : Prop := f_X13_toldOrder p1 (5 : Int32) M (fun r2 M1 => K r2 M1)
set_option maxRecDepth 100000 in
set_option maxHeartbeats 4000000 in
theorem c_X13_bargeOf {ad : Nat → Nat} (p1 : Int32) (M : TM) (K : Int32 → TM → Prop) (h : f_X13_bargeOf p1 M K) : MI yX13_bargeOf cX13_bargeOf 2 (some .int) 3 ad [.ref (ad 699), .int p1] M K := by
  refine MI_of RX13 rfl (by decide +kernel) (Nat.le_of_ble_eq_true rfl) (fun p l e s m below meth c D tc E hr => ?_)
  unfold f_X13_bargeOf at h
  refine ra_aload_n E dX13_bargeOf_0 rfl 0 rfl ?_
  refine ra_iload_n E dX13_bargeOf_1 rfl 1 rfl ?_
  refine ra_iconst E dX13_bargeOf_2 ki_5 ?_
  refine ra_callIV (rest := []) E (c_X13_toldOrder _ _ _ _ h) lq_13 cv_X13_toldOrder ml_X13_155 (by decide) (lmM (by decide)) (fun R => ⟨_, cel_699 tc ad R⟩) rfl rfl rfl (Nat.le_of_ble_eq_true rfl) ⟨Nat.le_of_ble_eq_true rfl, Nat.le_of_ble_eq_true rfl⟩ ⟨Nat.zero_le _, Nat.zero_le _⟩ dX13_bargeOf_3 (fun r2 M1 h => ?_)
  exact ra_iret E hr dX13_bargeOf_6 h
def f_X13_isOpen (p1 : Int32) (M : TM) (K : Int32 → TM → Prop) : Prop := f_X13_toldIn p1 (0 : Int32) M (fun r2 M1 => K r2 M1)
set_option maxRecDepth 100000 in
set_option maxHeartbeats 4000000 in
theorem c_X13_isOpen {ad : Nat → Nat} (p1 : Int32) (M : TM) (K : Int32 → TM → Prop) (h : f_X13_isOpen p1 M K) : MI yX13_isOpen cX13_isOpen 2 (some .boolean) 3 ad [.ref (ad 699), .int p1] M (fun r M' => (r = 0 ∨ r = 1) ∧ K r M') := by
  refine MI_of RX13 rfl (by decide +kernel) (Nat.le_of_ble_eq_true rfl) (fun p l e s m below meth c D tc E hr => ?_)
  unfold f_X13_isOpen at h
  refine ra_aload_n E dX13_isOpen_0 rfl 0 rfl ?_
  refine ra_iload_n E dX13_isOpen_1 rfl 1 rfl ?_
  refine ra_iconst E dX13_isOpen_2 ki_0 ?_
  refine ra_callIV (rest := []) E (c_X13_toldIn _ _ _ _ h) lq_13 cv_X13_toldIn ml_X13_161 (by decide) (lmM (by decide)) (fun R => ⟨_, cel_699 tc ad R⟩) rfl rfl rfl (Nat.le_of_ble_eq_true rfl) ⟨Nat.le_of_ble_eq_true rfl, Nat.le_of_ble_eq_true rfl⟩ ⟨Nat.zero_le _, Nat.zero_le _⟩ dX13_isOpen_3 (fun r2 M1 h => ?_)
  obtain ⟨b3, h⟩ := h
  exact ra_zret E hr (nz_01 b3) dX13_isOpen_6 ⟨b3, h⟩
def f_X13_isReady (p1 : Int32) (M : TM) (K : Int32 → TM → Prop) : Prop := f_X13_toldIn p1 (2 : Int32) M (fun r2 M1 => K r2 M1)
set_option maxRecDepth 100000 in
set_option maxHeartbeats 4000000 in
theorem c_X13_isReady {ad : Nat → Nat} (p1 : Int32) (M : TM) (K : Int32 → TM → Prop) (h : f_X13_isReady p1 M K) : MI yX13_isReady cX13_isReady 2 (some .boolean) 3 ad [.ref (ad 699), .int p1] M (fun r M' => (r = 0 ∨ r = 1) ∧ K r M') := by
  refine MI_of RX13 rfl (by decide +kernel) (Nat.le_of_ble_eq_true rfl) (fun p l e s m below meth c D tc E hr => ?_)
  unfold f_X13_isReady at h
  refine ra_aload_n E dX13_isReady_0 rfl 0 rfl ?_
  refine ra_iload_n E dX13_isReady_1 rfl 1 rfl ?_
  refine ra_iconst E dX13_isReady_2 ki_2 ?_
  refine ra_callIV (rest := []) E (c_X13_toldIn _ _ _ _ h) lq_13 cv_X13_toldIn ml_X13_161 (by decide) (lmM (by decide)) (fun R => ⟨_, cel_699 tc ad R⟩) rfl rfl rfl (Nat.le_of_ble_eq_true rfl) ⟨Nat.le_of_ble_eq_true rfl, Nat.le_of_ble_eq_true rfl⟩ ⟨Nat.zero_le _, Nat.zero_le _⟩ dX13_isReady_3 (fun r2 M1 h => ?_)
  obtain ⟨b3, h⟩ := h
  exact ra_zret E hr (nz_01 b3) dX13_isReady_6 ⟨b3, h⟩
def f_X13_isEaten (p1 : Int32) (M : TM) (K : Int32 → TM → Prop) : Prop := f_X13_toldIn p1 (3 : Int32) M (fun r2 M1 => K r2 M1)
set_option maxRecDepth 100000 in
set_option maxHeartbeats 4000000 in
theorem c_X13_isEaten {ad : Nat → Nat} (p1 : Int32) (M : TM) (K : Int32 → TM → Prop) (h : f_X13_isEaten p1 M K) : MI yX13_isEaten cX13_isEaten 2 (some .boolean) 3 ad [.ref (ad 699), .int p1] M (fun r M' => (r = 0 ∨ r = 1) ∧ K r M') := by
  refine MI_of RX13 rfl (by decide +kernel) (Nat.le_of_ble_eq_true rfl) (fun p l e s m below meth c D tc E hr => ?_)
  unfold f_X13_isEaten at h
  refine ra_aload_n E dX13_isEaten_0 rfl 0 rfl ?_
  refine ra_iload_n E dX13_isEaten_1 rfl 1 rfl ?_
  refine ra_iconst E dX13_isEaten_2 ki_3 ?_
  refine ra_callIV (rest := []) E (c_X13_toldIn _ _ _ _ h) lq_13 cv_X13_toldIn ml_X13_161 (by decide) (lmM (by decide)) (fun R => ⟨_, cel_699 tc ad R⟩) rfl rfl rfl (Nat.le_of_ble_eq_true rfl) ⟨Nat.le_of_ble_eq_true rfl, Nat.le_of_ble_eq_true rfl⟩ ⟨Nat.zero_le _, Nat.zero_le _⟩ dX13_isEaten_3 (fun r2 M1 h => ?_)
  obtain ⟨b3, h⟩ := h
  exact ra_zret E hr (nz_01 b3) dX13_isEaten_6 ⟨b3, h⟩
def f_X13_mostUrgentOrder_L9  (K : Int32 → TM → Prop) : Nat → Int32 → Int32 → TM → Prop
  | 0, _, _, _ => False
  | n + 1, x1, x2, M => vp_in (M 699 6) 2 ∧ vp_in (3 : Int32) 377 ∧ (((M (700 + (M 699 6).toNatClampNeg) (3 : Int32).toNatClampNeg) ≤ x2 → K x1 M) ∧ (¬ (M (700 + (M 699 6).toNatClampNeg) (3 : Int32).toNatClampNeg) ≤ x2 → f_X13_isIn x2 (0 : Int32) M (fun r6 M5 => ((r6 = 0 → f_X13_mostUrgentOrder_L9 K n x1 (x2 + 1) M5) ∧ (¬ r6 = 0 → ((x1 = (-1 : Int32) → f_X13_mostUrgentOrder_L9 K n x2 (x2 + 1) M5) ∧ (¬ x1 = (-1 : Int32) → f_X13_ofOrder x2 (3 : Int32) M5 (fun r13 M12 => f_X13_ofOrder x1 (3 : Int32) M12 (fun r15 M14 => ((r15 ≤ r13 → f_X13_mostUrgentOrder_L9 K n x1 (x2 + 1) M14) ∧ (¬ r15 ≤ r13 → f_X13_mostUrgentOrder_L9 K n x2 (x2 + 1) M14)))))))))))
set_option maxRecDepth 100000 in
set_option maxHeartbeats 4000000 in
theorem l_X13_mostUrgentOrder_L9 {p : Program} {l : Launch} {e : Env} {s : State} {m : MethodId} {args : Array Value} {below : List Frame} {meth : Method} {c : Code} {D : va_G} {tc : Nat → ClassId} {ad : Nat → Nat}  {K : Int32 → TM → Prop} (E : Ev p s m args meth c D tc ad RX13 cX13_mostUrgentOrder 4) (hr : meth.sig.returnType = (some .int)) : ∀ (n : Nat) (x1 : Int32) (x2 : Int32) (M : TM) , f_X13_mostUrgentOrder_L9  K n x1 x2 M → Wa p l e (rmD 2) s m args below meth c 0 0 (MQ below (va_Qi K (EndW D tc ad) (A0 ad s.heap.size)) args s 0 0 (A0 ad s.heap.size)) D tc ad 4 M 9 [(0, .ref (ad 699)), (1, .int x1), (2, .int x2)] [] := by
  intro n
  induction n with
  | zero => intro x1 x2 M  h; exact h.elim
  | succ n ih =>
    intro x1 x2 M  h
    unfold f_X13_mostUrgentOrder_L9 at h
    refine ra_iload_n E dX13_mostUrgentOrder_9 rfl 2 rfl ?_
    refine ra_aload_n E dX13_mostUrgentOrder_10 rfl 0 rfl ?_
    obtain ⟨g2, h⟩ := h
    refine gf_X13_6 E lm13 fl_X13_28 dX13_mostUrgentOrder_11 ?_
    refine ra_iconst E dX13_mostUrgentOrder_14 ki_3 ?_
    obtain ⟨g3, h⟩ := h
    refine ra_iald E (lmM (isRow_of g2).lt) (cel_row tc ad (isRow_of g2)) g3 dX13_mostUrgentOrder_15 ?_
    refine ra_icmp_ge (tgt := 70) E dX13_mostUrgentOrder_16 (by decide) (fun q4 => ?_) (fun q4 => ?_)
    · replace h := h.1 q4
      refine ra_iload_n E dX13_mostUrgentOrder_70 rfl 1 rfl ?_
      exact ra_iret E hr dX13_mostUrgentOrder_71 h
    · replace h := h.2 q4
      refine ra_aload_n E dX13_mostUrgentOrder_19 rfl 0 rfl ?_
      refine ra_iload_n E dX13_mostUrgentOrder_20 rfl 2 rfl ?_
      refine ra_iconst E dX13_mostUrgentOrder_21 ki_0 ?_
      refine ra_callIV (rest := []) E (c_X13_isIn _ _ _ _ h) lq_13 cv_X13_isIn ml_X13_116 (by decide) (lmM (by decide)) (fun R => ⟨_, cel_699 tc ad R⟩) rfl rfl rfl (Nat.le_of_ble_eq_true rfl) ⟨Nat.le_of_ble_eq_true rfl, Nat.le_of_ble_eq_true rfl⟩ ⟨Nat.zero_le _, Nat.zero_le _⟩ dX13_mostUrgentOrder_22 (fun r6 M5 h => ?_)
      obtain ⟨b7, h⟩ := h
      refine ra_if_eq (tgt := 52) E dX13_mostUrgentOrder_25 (by decide) (fun q8 => ?_) (fun q8 => ?_)
      · replace h := h.1 q8
        refine ra_iconst E dX13_mostUrgentOrder_52 ki_0 ?_
        refine ra_istore_n (L' := [(3, _), (0, _), (1, _), (2, _)]) E dX13_mostUrgentOrder_53 rfl (by decide) rfl ?_
        refine ra_iload_n E dX13_mostUrgentOrder_54 rfl 0 rfl ?_
        refine ra_if_eq (tgt := 62) E dX13_mostUrgentOrder_55 (by decide) (fun _ => ?_) (fun q => absurd q (by decide))
        refine ra_iload_n E dX13_mostUrgentOrder_62 rfl 2 rfl ?_
        refine ra_istore_n (L' := [(1, _), (3, _), (0, _), (2, _)]) E dX13_mostUrgentOrder_63 rfl (by decide) rfl ?_
        refine ra_iinc1 (L' := [(2, _), (1, _), (3, _), (0, _)]) E dX13_mostUrgentOrder_64 3 rfl (by decide) rfl ?_
        refine ra_goto (tgt := 9) E dX13_mostUrgentOrder_67 (by decide) ?_
        exact ra_sub (L' := [(0, _), (1, _), (2, _)]) [3, 1, 0] rfl (ih _ _ _ h)
      · replace h := h.2 q8
        refine ra_iload_n E dX13_mostUrgentOrder_28 rfl 1 rfl ?_
        refine ra_iconst E dX13_mostUrgentOrder_29 ki_m1 ?_
        refine ra_icmp_eq (tgt := 48) E dX13_mostUrgentOrder_30 (by decide) (fun q10 => ?_) (fun q10 => ?_)
        · replace h := h.1 q10
          refine ra_iconst E dX13_mostUrgentOrder_48 ki_1 ?_
          refine ra_goto (tgt := 53) E dX13_mostUrgentOrder_49 (by decide) ?_
          refine ra_istore_n (L' := [(3, _), (0, _), (1, _), (2, _)]) E dX13_mostUrgentOrder_53 rfl (by decide) rfl ?_
          refine ra_iload_n E dX13_mostUrgentOrder_54 rfl 0 rfl ?_
          refine ra_if_eq (tgt := 62) E dX13_mostUrgentOrder_55 (by decide) (fun q => absurd q (by decide)) (fun _ => ?_)
          refine ra_iload_n E dX13_mostUrgentOrder_58 rfl 3 rfl ?_
          refine ra_goto (tgt := 63) E dX13_mostUrgentOrder_59 (by decide) ?_
          refine ra_istore_n (L' := [(1, _), (3, _), (0, _), (2, _)]) E dX13_mostUrgentOrder_63 rfl (by decide) rfl ?_
          refine ra_iinc1 (L' := [(2, _), (1, _), (3, _), (0, _)]) E dX13_mostUrgentOrder_64 3 rfl (by decide) rfl ?_
          refine ra_goto (tgt := 9) E dX13_mostUrgentOrder_67 (by decide) ?_
          exact ra_sub (L' := [(0, _), (1, _), (2, _)]) [3, 1, 0] rfl (ih _ _ _ h)
        · replace h := h.2 q10
          refine ra_aload_n E dX13_mostUrgentOrder_33 rfl 0 rfl ?_
          refine ra_iload_n E dX13_mostUrgentOrder_34 rfl 2 rfl ?_
          refine ra_iconst E dX13_mostUrgentOrder_35 ki_3 ?_
          refine ra_callIV (rest := []) E (c_X13_ofOrder _ _ _ _ h) lq_13 cv_X13_ofOrder ml_X13_101 (by decide) (lmM (by decide)) (fun R => ⟨_, cel_699 tc ad R⟩) rfl rfl rfl (Nat.le_of_ble_eq_true rfl) ⟨Nat.le_of_ble_eq_true rfl, Nat.le_of_ble_eq_true rfl⟩ ⟨Nat.zero_le _, Nat.zero_le _⟩ dX13_mostUrgentOrder_36 (fun r13 M12 h => ?_)
          refine ra_aload_n E dX13_mostUrgentOrder_39 rfl 0 rfl ?_
          refine ra_iload_n E dX13_mostUrgentOrder_40 rfl 1 rfl ?_
          refine ra_iconst E dX13_mostUrgentOrder_41 ki_3 ?_
          refine ra_callIV (rest := [_]) E (c_X13_ofOrder _ _ _ _ h) lq_13 cv_X13_ofOrder ml_X13_101 (by decide) (lmM (by decide)) (fun R => ⟨_, cel_699 tc ad R⟩) rfl rfl rfl (Nat.le_of_ble_eq_true rfl) ⟨Nat.le_of_ble_eq_true rfl, Nat.le_of_ble_eq_true rfl⟩ ⟨Nat.zero_le _, Nat.zero_le _⟩ dX13_mostUrgentOrder_42 (fun r15 M14 h => ?_)
          refine ra_icmp_ge (tgt := 52) E dX13_mostUrgentOrder_45 (by decide) (fun q16 => ?_) (fun q16 => ?_)
          · replace h := h.1 q16
            refine ra_iconst E dX13_mostUrgentOrder_52 ki_0 ?_
            refine ra_istore_n (L' := [(3, _), (0, _), (1, _), (2, _)]) E dX13_mostUrgentOrder_53 rfl (by decide) rfl ?_
            refine ra_iload_n E dX13_mostUrgentOrder_54 rfl 0 rfl ?_
            refine ra_if_eq (tgt := 62) E dX13_mostUrgentOrder_55 (by decide) (fun _ => ?_) (fun q => absurd q (by decide))
            refine ra_iload_n E dX13_mostUrgentOrder_62 rfl 2 rfl ?_
            refine ra_istore_n (L' := [(1, _), (3, _), (0, _), (2, _)]) E dX13_mostUrgentOrder_63 rfl (by decide) rfl ?_
            refine ra_iinc1 (L' := [(2, _), (1, _), (3, _), (0, _)]) E dX13_mostUrgentOrder_64 3 rfl (by decide) rfl ?_
            refine ra_goto (tgt := 9) E dX13_mostUrgentOrder_67 (by decide) ?_
            exact ra_sub (L' := [(0, _), (1, _), (2, _)]) [3, 1, 0] rfl (ih _ _ _ h)
          · replace h := h.2 q16
            refine ra_iconst E dX13_mostUrgentOrder_48 ki_1 ?_
            refine ra_goto (tgt := 53) E dX13_mostUrgentOrder_49 (by decide) ?_
            refine ra_istore_n (L' := [(3, _), (0, _), (1, _), (2, _)]) E dX13_mostUrgentOrder_53 rfl (by decide) rfl ?_
            refine ra_iload_n E dX13_mostUrgentOrder_54 rfl 0 rfl ?_
            refine ra_if_eq (tgt := 62) E dX13_mostUrgentOrder_55 (by decide) (fun q => absurd q (by decide)) (fun _ => ?_)
            refine ra_iload_n E dX13_mostUrgentOrder_58 rfl 3 rfl ?_
            refine ra_goto (tgt := 63) E dX13_mostUrgentOrder_59 (by decide) ?_
            refine ra_istore_n (L' := [(1, _), (3, _), (0, _), (2, _)]) E dX13_mostUrgentOrder_63 rfl (by decide) rfl ?_
            refine ra_iinc1 (L' := [(2, _), (1, _), (3, _), (0, _)]) E dX13_mostUrgentOrder_64 3 rfl (by decide) rfl ?_
            refine ra_goto (tgt := 9) E dX13_mostUrgentOrder_67 (by decide) ?_
            exact ra_sub (L' := [(0, _), (1, _), (2, _)]) [3, 1, 0] rfl (ih _ _ _ h)
def f_X13_mostUrgentOrder  (M : TM) (K : Int32 → TM → Prop) : Prop := ∀ M1, M1 = u2 M 699 8 (0 : Int32) → ∃ n, f_X13_mostUrgentOrder_L9 K n (-1 : Int32) (0 : Int32) M1
set_option maxRecDepth 100000 in
set_option maxHeartbeats 4000000 in
theorem c_X13_mostUrgentOrder {ad : Nat → Nat}  (M : TM) (K : Int32 → TM → Prop) (h : f_X13_mostUrgentOrder  M K) : MI yX13_mostUrgentOrder cX13_mostUrgentOrder 4 (some .int) 2 ad [.ref (ad 699)] M K := by
  refine MI_of RX13 rfl (by decide +kernel) (Nat.le_of_ble_eq_true rfl) (fun p l e s m below meth c D tc E hr => ?_)
  unfold f_X13_mostUrgentOrder at h
  refine ra_aload_n E dX13_mostUrgentOrder_0 rfl 0 rfl ?_
  refine ra_iconst E dX13_mostUrgentOrder_1 ki_0 ?_
  refine pf_X13_8 E lm13 fl_X13_79 dX13_mostUrgentOrder_2 ?_
  replace h := h _ rfl
  refine ra_iconst E dX13_mostUrgentOrder_5 ki_m1 ?_
  refine ra_istore_n (L' := [(1, _), (0, _)]) E dX13_mostUrgentOrder_6 rfl (by decide) rfl ?_
  refine ra_iconst E dX13_mostUrgentOrder_7 ki_0 ?_
  refine ra_istore_n (L' := [(2, _), (1, _), (0, _)]) E dX13_mostUrgentOrder_8 rfl (by decide) rfl ?_
  obtain ⟨n19, h⟩ := h
  exact ra_sub (L' := [(0, _), (1, _), (2, _)]) [2, 1, 0] rfl (l_X13_mostUrgentOrder_L9 E hr n19 _ _ _ h)
def f_X13_coins  (M : TM) (K : Int32 → TM → Prop) : Prop := ∀ M1, M1 = u2 M 699 8 (0 : Int32) → vp_in (M1 699 6) 2 ∧ vp_in (4 : Int32) 377 ∧ K (M1 (700 + (M1 699 6).toNatClampNeg) (4 : Int32).toNatClampNeg) M1
set_option maxRecDepth 100000 in
set_option maxHeartbeats 4000000 in
theorem c_X13_coins {ad : Nat → Nat}  (M : TM) (K : Int32 → TM → Prop) (h : f_X13_coins  M K) : MI yX13_coins cX13_coins 1 (some .int) 0 ad [.ref (ad 699)] M K := by
  refine MI_of RX13 rfl (by decide +kernel) (Nat.le_of_ble_eq_true rfl) (fun p l e s m below meth c D tc E hr => ?_)
  unfold f_X13_coins at h
  refine ra_aload_n E dX13_coins_0 rfl 0 rfl ?_
  refine ra_iconst E dX13_coins_1 ki_0 ?_
  refine pf_X13_8 E lm13 fl_X13_79 dX13_coins_2 ?_
  replace h := h _ rfl
  refine ra_aload_n E dX13_coins_5 rfl 0 rfl ?_
  obtain ⟨g2, h⟩ := h
  refine gf_X13_6 E lm13 fl_X13_28 dX13_coins_6 ?_
  refine ra_iconst E dX13_coins_9 ki_4 ?_
  obtain ⟨g3, h⟩ := h
  refine ra_iald E (lmM (isRow_of g2).lt) (cel_row tc ad (isRow_of g2)) g3 dX13_coins_10 ?_
  exact ra_iret E hr dX13_coins_11 h
def f_X13_eatenBowls  (M : TM) (K : Int32 → TM → Prop) : Prop := ∀ M1, M1 = u2 M 699 8 (0 : Int32) → vp_in (M1 699 6) 2 ∧ vp_in (5 : Int32) 377 ∧ K (M1 (700 + (M1 699 6).toNatClampNeg) (5 : Int32).toNatClampNeg) M1
set_option maxRecDepth 100000 in
set_option maxHeartbeats 4000000 in
theorem c_X13_eatenBowls {ad : Nat → Nat}  (M : TM) (K : Int32 → TM → Prop) (h : f_X13_eatenBowls  M K) : MI yX13_eatenBowls cX13_eatenBowls 1 (some .int) 0 ad [.ref (ad 699)] M K := by
  refine MI_of RX13 rfl (by decide +kernel) (Nat.le_of_ble_eq_true rfl) (fun p l e s m below meth c D tc E hr => ?_)
  unfold f_X13_eatenBowls at h
  refine ra_aload_n E dX13_eatenBowls_0 rfl 0 rfl ?_
  refine ra_iconst E dX13_eatenBowls_1 ki_0 ?_
  refine pf_X13_8 E lm13 fl_X13_79 dX13_eatenBowls_2 ?_
  replace h := h _ rfl
  refine ra_aload_n E dX13_eatenBowls_5 rfl 0 rfl ?_
  obtain ⟨g2, h⟩ := h
  refine gf_X13_6 E lm13 fl_X13_28 dX13_eatenBowls_6 ?_
  refine ra_iconst E dX13_eatenBowls_9 ki_5 ?_
  obtain ⟨g3, h⟩ := h
  refine ra_iald E (lmM (isRow_of g2).lt) (cel_row tc ad (isRow_of g2)) g3 dX13_eatenBowls_10 ?_
  exact ra_iret E hr dX13_eatenBowls_11 h
def f_X13_expiredOrders  (M : TM) (K : Int32 → TM → Prop) : Prop := ∀ M1, M1 = u2 M 699 8 (0 : Int32) → vp_in (M1 699 6) 2 ∧ vp_in (6 : Int32) 377 ∧ K (M1 (700 + (M1 699 6).toNatClampNeg) (6 : Int32).toNatClampNeg) M1
set_option maxRecDepth 100000 in
set_option maxHeartbeats 4000000 in
theorem c_X13_expiredOrders {ad : Nat → Nat}  (M : TM) (K : Int32 → TM → Prop) (h : f_X13_expiredOrders  M K) : MI yX13_expiredOrders cX13_expiredOrders 1 (some .int) 0 ad [.ref (ad 699)] M K := by
  refine MI_of RX13 rfl (by decide +kernel) (Nat.le_of_ble_eq_true rfl) (fun p l e s m below meth c D tc E hr => ?_)
  unfold f_X13_expiredOrders at h
  refine ra_aload_n E dX13_expiredOrders_0 rfl 0 rfl ?_
  refine ra_iconst E dX13_expiredOrders_1 ki_0 ?_
  refine pf_X13_8 E lm13 fl_X13_79 dX13_expiredOrders_2 ?_
  replace h := h _ rfl
  refine ra_aload_n E dX13_expiredOrders_5 rfl 0 rfl ?_
  obtain ⟨g2, h⟩ := h
  refine gf_X13_6 E lm13 fl_X13_28 dX13_expiredOrders_6 ?_
  refine ra_bipush E dX13_expiredOrders_9 kb_6 ?_
  obtain ⟨g3, h⟩ := h
  refine ra_iald E (lmM (isRow_of g2).lt) (cel_row tc ad (isRow_of g2)) g3 dX13_expiredOrders_11 ?_
  exact ra_iret E hr dX13_expiredOrders_12 h
def f_X13_sumOf_L4 (p1 : Int32) (K : Int32 → TM → Prop) : Nat → Int32 → Int32 → Int32 → TM → Prop
  | 0, _, _, _, _ => False
  | n + 1, x1, x2, x3, M => vp_in (M 699 6) 2 ∧ vp_in (2 : Int32) 377 ∧ (((M (700 + (M 699 6).toNatClampNeg) (2 : Int32).toNatClampNeg) ≤ x3 → K x2 M) ∧ (¬ (M (700 + (M 699 6).toNatClampNeg) (2 : Int32).toNatClampNeg) ≤ x3 → f_X13_of x3 x1 M (fun r5 M4 => f_X13_sumOf_L4 p1 K n x1 (x2 + r5) (x3 + 1) M4)))
set_option maxRecDepth 100000 in
set_option maxHeartbeats 4000000 in
theorem l_X13_sumOf_L4 {p : Program} {l : Launch} {e : Env} {s : State} {m : MethodId} {args : Array Value} {below : List Frame} {meth : Method} {c : Code} {D : va_G} {tc : Nat → ClassId} {ad : Nat → Nat} (p1 : Int32) {K : Int32 → TM → Prop} (E : Ev p s m args meth c D tc ad RX13 cX13_sumOf 4) (hr : meth.sig.returnType = (some .int)) : ∀ (n : Nat) (x1 : Int32) (x2 : Int32) (x3 : Int32) (M : TM) , f_X13_sumOf_L4 p1 K n x1 x2 x3 M → Wa p l e (rmD 1) s m args below meth c 0 0 (MQ below (va_Qi K (EndW D tc ad) (A0 ad s.heap.size)) args s 0 0 (A0 ad s.heap.size)) D tc ad 4 M 4 [(0, .ref (ad 699)), (1, .int x1), (2, .int x2), (3, .int x3)] [] := by
  intro n
  induction n with
  | zero => intro x1 x2 x3 M  h; exact h.elim
  | succ n ih =>
    intro x1 x2 x3 M  h
    unfold f_X13_sumOf_L4 at h
    refine ra_iload_n E dX13_sumOf_4 rfl 3 rfl ?_
    refine ra_aload_n E dX13_sumOf_5 rfl 0 rfl ?_
    obtain ⟨g1, h⟩ := h
    refine gf_X13_6 E lm13 fl_X13_28 dX13_sumOf_6 ?_
    refine ra_iconst E dX13_sumOf_9 ki_2 ?_
    obtain ⟨g2, h⟩ := h
    refine ra_iald E (lmM (isRow_of g1).lt) (cel_row tc ad (isRow_of g1)) g2 dX13_sumOf_10 ?_
    refine ra_icmp_ge (tgt := 29) E dX13_sumOf_11 (by decide) (fun q3 => ?_) (fun q3 => ?_)
    · replace h := h.1 q3
      refine ra_iload_n E dX13_sumOf_29 rfl 2 rfl ?_
      exact ra_iret E hr dX13_sumOf_30 h
    · replace h := h.2 q3
      refine ra_iload_n E dX13_sumOf_14 rfl 2 rfl ?_
      refine ra_aload_n E dX13_sumOf_15 rfl 0 rfl ?_
      refine ra_iload_n E dX13_sumOf_16 rfl 3 rfl ?_
      refine ra_iload_n E dX13_sumOf_17 rfl 1 rfl ?_
      refine ra_callIV (rest := [_]) E (c_X13_of _ _ _ _ h) lq_13 cv_X13_of ml_X13_93 (by decide) (lmM (by decide)) (fun R => ⟨_, cel_699 tc ad R⟩) rfl rfl rfl (Nat.le_of_ble_eq_true rfl) ⟨Nat.le_of_ble_eq_true rfl, Nat.le_of_ble_eq_true rfl⟩ ⟨Nat.zero_le _, Nat.zero_le _⟩ dX13_sumOf_18 (fun r5 M4 h => ?_)
      refine ra_iadd E dX13_sumOf_21 ?_
      refine ra_istore_n (L' := [(2, _), (0, _), (1, _), (3, _)]) E dX13_sumOf_22 rfl (by decide) rfl ?_
      refine ra_iinc1 (L' := [(3, _), (2, _), (0, _), (1, _)]) E dX13_sumOf_23 3 rfl (by decide) rfl ?_
      refine ra_goto (tgt := 4) E dX13_sumOf_26 (by decide) ?_
      exact ra_sub (L' := [(0, _), (1, _), (2, _), (3, _)]) [2, 3, 1, 0] rfl (ih _ _ _ _ h)
def f_X13_sumOf (p1 : Int32) (M : TM) (K : Int32 → TM → Prop) : Prop := ∃ n, f_X13_sumOf_L4 p1 K n p1 (0 : Int32) (0 : Int32) M
set_option maxRecDepth 100000 in
set_option maxHeartbeats 4000000 in
theorem c_X13_sumOf {ad : Nat → Nat} (p1 : Int32) (M : TM) (K : Int32 → TM → Prop) (h : f_X13_sumOf p1 M K) : MI yX13_sumOf cX13_sumOf 4 (some .int) 1 ad [.ref (ad 699), .int p1] M K := by
  refine MI_of RX13 rfl (by decide +kernel) (Nat.le_of_ble_eq_true rfl) (fun p l e s m below meth c D tc E hr => ?_)
  unfold f_X13_sumOf at h
  refine ra_iconst E dX13_sumOf_0 ki_0 ?_
  refine ra_istore_n (L' := [(2, _), (0, _), (1, _)]) E dX13_sumOf_1 rfl (by decide) rfl ?_
  refine ra_iconst E dX13_sumOf_2 ki_0 ?_
  refine ra_istore_n (L' := [(3, _), (2, _), (0, _), (1, _)]) E dX13_sumOf_3 rfl (by decide) rfl ?_
  obtain ⟨n6, h⟩ := h
  exact ra_sub (L' := [(0, _), (1, _), (2, _), (3, _)]) [2, 3, 1, 0] rfl (l_X13_sumOf_L4 p1 E hr n6 _ _ _ _ h)
def f_X13_sumAt_L4 (p1 : Int32) (K : Int32 → TM → Prop) : Nat → Int32 → Int32 → Int32 → TM → Prop
  | 0, _, _, _, _ => False
  | n + 1, x1, x2, x3, M => vp_in (M 699 6) 2 ∧ vp_in (1 : Int32) 377 ∧ (((M (700 + (M 699 6).toNatClampNeg) (1 : Int32).toNatClampNeg) ≤ x3 → K x2 M) ∧ (¬ (M (700 + (M 699 6).toNatClampNeg) (1 : Int32).toNatClampNeg) ≤ x3 → vp_in (M 699 6) 2 ∧ vp_in (x1 + x3) 377 ∧ f_X13_sumAt_L4 p1 K n x1 (x2 + (M (700 + (M 699 6).toNatClampNeg) (x1 + x3).toNatClampNeg)) (x3 + 1) M))
set_option maxRecDepth 100000 in
set_option maxHeartbeats 4000000 in
theorem l_X13_sumAt_L4 {p : Program} {l : Launch} {e : Env} {s : State} {m : MethodId} {args : Array Value} {below : List Frame} {meth : Method} {c : Code} {D : va_G} {tc : Nat → ClassId} {ad : Nat → Nat} (p1 : Int32) {K : Int32 → TM → Prop} (E : Ev p s m args meth c D tc ad RX13 cX13_sumAt 4) (hr : meth.sig.returnType = (some .int)) : ∀ (n : Nat) (x1 : Int32) (x2 : Int32) (x3 : Int32) (M : TM) , f_X13_sumAt_L4 p1 K n x1 x2 x3 M → Wa p l e (rmD 0) s m args below meth c 0 0 (MQ below (va_Qi K (EndW D tc ad) (A0 ad s.heap.size)) args s 0 0 (A0 ad s.heap.size)) D tc ad 4 M 4 [(0, .ref (ad 699)), (1, .int x1), (2, .int x2), (3, .int x3)] [] := by
  intro n
  induction n with
  | zero => intro x1 x2 x3 M  h; exact h.elim
  | succ n ih =>
    intro x1 x2 x3 M  h
    unfold f_X13_sumAt_L4 at h
    refine ra_iload_n E dX13_sumAt_4 rfl 3 rfl ?_
    refine ra_aload_n E dX13_sumAt_5 rfl 0 rfl ?_
    obtain ⟨g1, h⟩ := h
    refine gf_X13_6 E lm13 fl_X13_28 dX13_sumAt_6 ?_
    refine ra_iconst E dX13_sumAt_9 ki_1 ?_
    obtain ⟨g2, h⟩ := h
    refine ra_iald E (lmM (isRow_of g1).lt) (cel_row tc ad (isRow_of g1)) g2 dX13_sumAt_10 ?_
    refine ra_icmp_ge (tgt := 31) E dX13_sumAt_11 (by decide) (fun q3 => ?_) (fun q3 => ?_)
    · replace h := h.1 q3
      refine ra_iload_n E dX13_sumAt_31 rfl 2 rfl ?_
      exact ra_iret E hr dX13_sumAt_32 h
    · replace h := h.2 q3
      refine ra_iload_n E dX13_sumAt_14 rfl 2 rfl ?_
      refine ra_aload_n E dX13_sumAt_15 rfl 0 rfl ?_
      obtain ⟨g4, h⟩ := h
      refine gf_X13_6 E lm13 fl_X13_28 dX13_sumAt_16 ?_
      refine ra_iload_n E dX13_sumAt_19 rfl 1 rfl ?_
      refine ra_iload_n E dX13_sumAt_20 rfl 3 rfl ?_
      refine ra_iadd E dX13_sumAt_21 ?_
      obtain ⟨g5, h⟩ := h
      refine ra_iald E (lmM (isRow_of g4).lt) (cel_row tc ad (isRow_of g4)) g5 dX13_sumAt_22 ?_
      refine ra_iadd E dX13_sumAt_23 ?_
      refine ra_istore_n (L' := [(2, _), (0, _), (1, _), (3, _)]) E dX13_sumAt_24 rfl (by decide) rfl ?_
      refine ra_iinc1 (L' := [(3, _), (2, _), (0, _), (1, _)]) E dX13_sumAt_25 3 rfl (by decide) rfl ?_
      refine ra_goto (tgt := 4) E dX13_sumAt_28 (by decide) ?_
      exact ra_sub (L' := [(0, _), (1, _), (2, _), (3, _)]) [2, 3, 1, 0] rfl (ih _ _ _ _ h)
def f_X13_sumAt (p1 : Int32) (M : TM) (K : Int32 → TM → Prop) : Prop := ∃ n, f_X13_sumAt_L4 p1 K n p1 (0 : Int32) (0 : Int32) M
set_option maxRecDepth 100000 in
set_option maxHeartbeats 4000000 in
theorem c_X13_sumAt {ad : Nat → Nat} (p1 : Int32) (M : TM) (K : Int32 → TM → Prop) (h : f_X13_sumAt p1 M K) : MI yX13_sumAt cX13_sumAt 4 (some .int) 0 ad [.ref (ad 699), .int p1] M K := by
  refine MI_of RX13 rfl (by decide +kernel) (Nat.le_of_ble_eq_true rfl) (fun p l e s m below meth c D tc E hr => ?_)
  unfold f_X13_sumAt at h
  refine ra_iconst E dX13_sumAt_0 ki_0 ?_
  refine ra_istore_n (L' := [(2, _), (0, _), (1, _)]) E dX13_sumAt_1 rfl (by decide) rfl ?_
  refine ra_iconst E dX13_sumAt_2 ki_0 ?_
  refine ra_istore_n (L' := [(3, _), (2, _), (0, _), (1, _)]) E dX13_sumAt_3 rfl (by decide) rfl ?_
  obtain ⟨n6, h⟩ := h
  exact ra_sub (L' := [(0, _), (1, _), (2, _), (3, _)]) [2, 3, 1, 0] rfl (l_X13_sumAt_L4 p1 E hr n6 _ _ _ _ h)
def f_X13_meanCleanPairs  (M : TM) (K : UInt64 → TM → Prop) : Prop := ∀ M1, M1 = u2 M 699 8 (0 : Int32) → f_X13_sumOf (4 : Int32) M1 (fun r3 M2 => vp_in (M2 699 6) 2 ∧ vp_in (2 : Int32) 377 ∧ vf_n64 (FP.ddiv (FP.i2d r3) (FP.i2d (M2 (700 + (M2 699 6).toNatClampNeg) (2 : Int32).toNatClampNeg))) ∧ K (FP.ddiv (FP.i2d r3) (FP.i2d (M2 (700 + (M2 699 6).toNatClampNeg) (2 : Int32).toNatClampNeg))) M2)
set_option maxRecDepth 100000 in
set_option maxHeartbeats 4000000 in
theorem c_X13_meanCleanPairs {ad : Nat → Nat}  (M : TM) (K : UInt64 → TM → Prop) (h : f_X13_meanCleanPairs  M K) : MD yX13_meanCleanPairs cX13_meanCleanPairs 1 2 ad [.ref (ad 699)] M K := by
  refine MD_of RX13 rfl (by decide +kernel) (Nat.le_of_ble_eq_true rfl) (fun p l e s m below meth c D tc E hr => ?_)
  unfold f_X13_meanCleanPairs at h
  refine ra_aload_n E dX13_meanCleanPairs_0 rfl 0 rfl ?_
  refine ra_iconst E dX13_meanCleanPairs_1 ki_0 ?_
  refine pf_X13_8 E lm13 fl_X13_79 dX13_meanCleanPairs_2 ?_
  replace h := h _ rfl
  refine ra_aload_n E dX13_meanCleanPairs_5 rfl 0 rfl ?_
  refine ra_iconst E dX13_meanCleanPairs_6 ki_4 ?_
  refine ra_callIV (rest := []) E (c_X13_sumOf _ _ _ h) lq_13 cv_X13_sumOf ml_X13_164 (by decide) (lmM (by decide)) (fun R => ⟨_, cel_699 tc ad R⟩) rfl rfl rfl (Nat.le_of_ble_eq_true rfl) ⟨Nat.le_of_ble_eq_true rfl, Nat.le_of_ble_eq_true rfl⟩ ⟨Nat.zero_le _, Nat.zero_le _⟩ dX13_meanCleanPairs_7 (fun r3 M2 h => ?_)
  refine ra_i2d E dX13_meanCleanPairs_10 ?_
  refine ra_aload_n E dX13_meanCleanPairs_11 rfl 0 rfl ?_
  obtain ⟨g4, h⟩ := h
  refine gf_X13_6 E lm13 fl_X13_28 dX13_meanCleanPairs_12 ?_
  refine ra_iconst E dX13_meanCleanPairs_15 ki_2 ?_
  obtain ⟨g5, h⟩ := h
  refine ra_iald E (lmM (isRow_of g4).lt) (cel_row tc ad (isRow_of g4)) g5 dX13_meanCleanPairs_16 ?_
  refine ra_i2d E dX13_meanCleanPairs_17 ?_
  obtain ⟨g6, h⟩ := h
  refine ra_ddiv E dX13_meanCleanPairs_18 g6 ?_
  exact ra_dret E hr dX13_meanCleanPairs_19 h
def f_X13_countIn_L4 (p1 : Int32) (K : Int32 → TM → Prop) : Nat → Int32 → Int32 → Int32 → TM → Prop
  | 0, _, _, _, _ => False
  | n + 1, x1, x2, x3, M => vp_in (M 699 6) 2 ∧ vp_in (3 : Int32) 377 ∧ (((M (700 + (M 699 6).toNatClampNeg) (3 : Int32).toNatClampNeg) ≤ x3 → K x2 M) ∧ (¬ (M (700 + (M 699 6).toNatClampNeg) (3 : Int32).toNatClampNeg) ≤ x3 → f_X13_isIn x3 x1 M (fun r5 M4 => ((r5 = 0 → f_X13_countIn_L4 p1 K n x1 (x2 + (0 : Int32)) (x3 + 1) M4) ∧ (¬ r5 = 0 → f_X13_countIn_L4 p1 K n x1 (x2 + (1 : Int32)) (x3 + 1) M4)))))
set_option maxRecDepth 100000 in
set_option maxHeartbeats 4000000 in
theorem l_X13_countIn_L4 {p : Program} {l : Launch} {e : Env} {s : State} {m : MethodId} {args : Array Value} {below : List Frame} {meth : Method} {c : Code} {D : va_G} {tc : Nat → ClassId} {ad : Nat → Nat} (p1 : Int32) {K : Int32 → TM → Prop} (E : Ev p s m args meth c D tc ad RX13 cX13_countIn 4) (hr : meth.sig.returnType = (some .int)) : ∀ (n : Nat) (x1 : Int32) (x2 : Int32) (x3 : Int32) (M : TM) , f_X13_countIn_L4 p1 K n x1 x2 x3 M → Wa p l e (rmD 2) s m args below meth c 0 0 (MQ below (va_Qi K (EndW D tc ad) (A0 ad s.heap.size)) args s 0 0 (A0 ad s.heap.size)) D tc ad 4 M 4 [(0, .ref (ad 699)), (1, .int x1), (2, .int x2), (3, .int x3)] [] := by
  intro n
  induction n with
  | zero => intro x1 x2 x3 M  h; exact h.elim
  | succ n ih =>
    intro x1 x2 x3 M  h
    unfold f_X13_countIn_L4 at h
    refine ra_iload_n E dX13_countIn_4 rfl 3 rfl ?_
    refine ra_aload_n E dX13_countIn_5 rfl 0 rfl ?_
    obtain ⟨g1, h⟩ := h
    refine gf_X13_6 E lm13 fl_X13_28 dX13_countIn_6 ?_
    refine ra_iconst E dX13_countIn_9 ki_3 ?_
    obtain ⟨g2, h⟩ := h
    refine ra_iald E (lmM (isRow_of g1).lt) (cel_row tc ad (isRow_of g1)) g2 dX13_countIn_10 ?_
    refine ra_icmp_ge (tgt := 37) E dX13_countIn_11 (by decide) (fun q3 => ?_) (fun q3 => ?_)
    · replace h := h.1 q3
      refine ra_iload_n E dX13_countIn_37 rfl 2 rfl ?_
      exact ra_iret E hr dX13_countIn_38 h
    · replace h := h.2 q3
      refine ra_iload_n E dX13_countIn_14 rfl 2 rfl ?_
      refine ra_aload_n E dX13_countIn_15 rfl 0 rfl ?_
      refine ra_iload_n E dX13_countIn_16 rfl 3 rfl ?_
      refine ra_iload_n E dX13_countIn_17 rfl 1 rfl ?_
      refine ra_callIV (rest := [_]) E (c_X13_isIn _ _ _ _ h) lq_13 cv_X13_isIn ml_X13_116 (by decide) (lmM (by decide)) (fun R => ⟨_, cel_699 tc ad R⟩) rfl rfl rfl (Nat.le_of_ble_eq_true rfl) ⟨Nat.le_of_ble_eq_true rfl, Nat.le_of_ble_eq_true rfl⟩ ⟨Nat.zero_le _, Nat.zero_le _⟩ dX13_countIn_18 (fun r5 M4 h => ?_)
      obtain ⟨b6, h⟩ := h
      refine ra_if_eq (tgt := 28) E dX13_countIn_21 (by decide) (fun q7 => ?_) (fun q7 => ?_)
      · replace h := h.1 q7
        refine ra_iconst E dX13_countIn_28 ki_0 ?_
        refine ra_iadd E dX13_countIn_29 ?_
        refine ra_istore_n (L' := [(2, _), (0, _), (1, _), (3, _)]) E dX13_countIn_30 rfl (by decide) rfl ?_
        refine ra_iinc1 (L' := [(3, _), (2, _), (0, _), (1, _)]) E dX13_countIn_31 3 rfl (by decide) rfl ?_
        refine ra_goto (tgt := 4) E dX13_countIn_34 (by decide) ?_
        exact ra_sub (L' := [(0, _), (1, _), (2, _), (3, _)]) [2, 3, 1, 0] rfl (ih _ _ _ _ h)
      · replace h := h.2 q7
        refine ra_iconst E dX13_countIn_24 ki_1 ?_
        refine ra_goto (tgt := 29) E dX13_countIn_25 (by decide) ?_
        refine ra_iadd E dX13_countIn_29 ?_
        refine ra_istore_n (L' := [(2, _), (0, _), (1, _), (3, _)]) E dX13_countIn_30 rfl (by decide) rfl ?_
        refine ra_iinc1 (L' := [(3, _), (2, _), (0, _), (1, _)]) E dX13_countIn_31 3 rfl (by decide) rfl ?_
        refine ra_goto (tgt := 4) E dX13_countIn_34 (by decide) ?_
        exact ra_sub (L' := [(0, _), (1, _), (2, _), (3, _)]) [2, 3, 1, 0] rfl (ih _ _ _ _ h)
def f_X13_countIn (p1 : Int32) (M : TM) (K : Int32 → TM → Prop) : Prop := ∃ n, f_X13_countIn_L4 p1 K n p1 (0 : Int32) (0 : Int32) M
set_option maxRecDepth 100000 in
set_option maxHeartbeats 4000000 in
theorem c_X13_countIn {ad : Nat → Nat} (p1 : Int32) (M : TM) (K : Int32 → TM → Prop) (h : f_X13_countIn p1 M K) : MI yX13_countIn cX13_countIn 4 (some .int) 2 ad [.ref (ad 699), .int p1] M K := by
  refine MI_of RX13 rfl (by decide +kernel) (Nat.le_of_ble_eq_true rfl) (fun p l e s m below meth c D tc E hr => ?_)
  unfold f_X13_countIn at h
  refine ra_iconst E dX13_countIn_0 ki_0 ?_
  refine ra_istore_n (L' := [(2, _), (0, _), (1, _)]) E dX13_countIn_1 rfl (by decide) rfl ?_
  refine ra_iconst E dX13_countIn_2 ki_0 ?_
  refine ra_istore_n (L' := [(3, _), (2, _), (0, _), (1, _)]) E dX13_countIn_3 rfl (by decide) rfl ?_
  obtain ⟨n8, h⟩ := h
  exact ra_sub (L' := [(0, _), (1, _), (2, _), (3, _)]) [2, 3, 1, 0] rfl (l_X13_countIn_L4 p1 E hr n8 _ _ _ _ h)
def f_X13_eatenShare  (M : TM) (K : UInt32 → TM → Prop) : Prop := ∀ M1, M1 = u2 M 699 8 (0 : Int32) → f_X13_countIn (3 : Int32) M1 (fun r3 M2 => f_X13_countIn (4 : Int32) M2 (fun r5 M4 => ((¬ (r3 + r5) = 0 → vf_n32 (FP.fdiv (FP.i2f r3) (FP.i2f (r3 + r5))) ∧ K (FP.fdiv (FP.i2f r3) (FP.i2f (r3 + r5))) M4) ∧ ((r3 + r5) = 0 → K (FP.fconst0) M4))))
set_option maxRecDepth 100000 in
set_option maxHeartbeats 4000000 in
theorem c_X13_eatenShare {ad : Nat → Nat}  (M : TM) (K : UInt32 → TM → Prop) (h : f_X13_eatenShare  M K) : MF yX13_eatenShare cX13_eatenShare 3 3 ad [.ref (ad 699)] M K := by
  refine MF_of RX13 rfl (by decide +kernel) (Nat.le_of_ble_eq_true rfl) (fun p l e s m below meth c D tc E hr => ?_)
  unfold f_X13_eatenShare at h
  refine ra_aload_n E dX13_eatenShare_0 rfl 0 rfl ?_
  refine ra_iconst E dX13_eatenShare_1 ki_0 ?_
  refine pf_X13_8 E lm13 fl_X13_79 dX13_eatenShare_2 ?_
  replace h := h _ rfl
  refine ra_aload_n E dX13_eatenShare_5 rfl 0 rfl ?_
  refine ra_iconst E dX13_eatenShare_6 ki_3 ?_
  refine ra_callIV (rest := []) E (c_X13_countIn _ _ _ h) lq_13 cv_X13_countIn ml_X13_167 (by decide) (lmM (by decide)) (fun R => ⟨_, cel_699 tc ad R⟩) rfl rfl rfl (Nat.le_of_ble_eq_true rfl) ⟨Nat.le_of_ble_eq_true rfl, Nat.le_of_ble_eq_true rfl⟩ ⟨Nat.zero_le _, Nat.zero_le _⟩ dX13_eatenShare_7 (fun r3 M2 h => ?_)
  refine ra_istore_n (L' := [(1, _), (0, _)]) E dX13_eatenShare_10 rfl (by decide) rfl ?_
  refine ra_iload_n E dX13_eatenShare_11 rfl 0 rfl ?_
  refine ra_aload_n E dX13_eatenShare_12 rfl 1 rfl ?_
  refine ra_iconst E dX13_eatenShare_13 ki_4 ?_
  refine ra_callIV (rest := [_]) E (c_X13_countIn _ _ _ h) lq_13 cv_X13_countIn ml_X13_167 (by decide) (lmM (by decide)) (fun R => ⟨_, cel_699 tc ad R⟩) rfl rfl rfl (Nat.le_of_ble_eq_true rfl) ⟨Nat.le_of_ble_eq_true rfl, Nat.le_of_ble_eq_true rfl⟩ ⟨Nat.zero_le _, Nat.zero_le _⟩ dX13_eatenShare_14 (fun r5 M4 h => ?_)
  refine ra_iadd E dX13_eatenShare_17 ?_
  refine ra_istore_n (L' := [(2, _), (1, _), (0, _)]) E dX13_eatenShare_18 rfl (by decide) rfl ?_
  refine ra_iload_n E dX13_eatenShare_19 rfl 0 rfl ?_
  refine ra_if_ne (tgt := 27) E dX13_eatenShare_20 (by decide) (fun q6 => ?_) (fun q6 => ?_)
  · replace h := h.1 q6
    refine ra_iload_n E dX13_eatenShare_27 rfl 1 rfl ?_
    refine ra_i2f E dX13_eatenShare_28 ?_
    refine ra_iload_n E dX13_eatenShare_29 rfl 0 rfl ?_
    refine ra_i2f E dX13_eatenShare_30 ?_
    obtain ⟨g7, h⟩ := h
    refine ra_fdiv E dX13_eatenShare_31 g7 ?_
    exact ra_fret E hr dX13_eatenShare_32 h
  · replace h := h.2 q6
    refine ra_fconst0 E dX13_eatenShare_23 ?_
    refine ra_goto (tgt := 32) E dX13_eatenShare_24 (by decide) ?_
    exact ra_fret E hr dX13_eatenShare_32 h
def f_X13_gap  (M : TM) (K : Int32 → TM → Prop) : Prop := ∀ M1, M1 = u2 M 699 8 (0 : Int32) → f_X13_sumOf (4 : Int32) M1 (fun r3 M2 => f_X13_sumOf (5 : Int32) M2 (fun r5 M4 => f_X13_sumAt (40 : Int32) M4 (fun r7 M6 => vp_in (M6 699 6) 2 ∧ vp_in (7 : Int32) 377 ∧ f_X13_sizeOf ((M6 (700 + (M6 699 6).toNatClampNeg) (7 : Int32).toNatClampNeg) - ((r3 + r5) + r7)) M6 (fun r11 M10 => vp_in (M10 699 6) 2 ∧ vp_in (5 : Int32) 377 ∧ f_X13_sumAt (56 : Int32) M10 (fun r15 M14 => f_X13_sizeOf ((M10 (700 + (M10 699 6).toNatClampNeg) (5 : Int32).toNatClampNeg) - r15) M14 (fun r17 M16 => K (r11 + r17) M16))))))
set_option maxRecDepth 100000 in
set_option maxHeartbeats 4000000 in
theorem c_X13_gap {ad : Nat → Nat}  (M : TM) (K : Int32 → TM → Prop) (h : f_X13_gap  M K) : MI yX13_gap cX13_gap 2 (some .int) 2 ad [.ref (ad 699)] M K := by
  refine MI_of RX13 rfl (by decide +kernel) (Nat.le_of_ble_eq_true rfl) (fun p l e s m below meth c D tc E hr => ?_)
  unfold f_X13_gap at h
  refine ra_aload_n E dX13_gap_0 rfl 0 rfl ?_
  refine ra_iconst E dX13_gap_1 ki_0 ?_
  refine pf_X13_8 E lm13 fl_X13_79 dX13_gap_2 ?_
  replace h := h _ rfl
  refine ra_aload_n E dX13_gap_5 rfl 0 rfl ?_
  refine ra_iconst E dX13_gap_6 ki_4 ?_
  refine ra_callIV (rest := []) E (c_X13_sumOf _ _ _ h) lq_13 cv_X13_sumOf ml_X13_164 (by decide) (lmM (by decide)) (fun R => ⟨_, cel_699 tc ad R⟩) rfl rfl rfl (Nat.le_of_ble_eq_true rfl) ⟨Nat.le_of_ble_eq_true rfl, Nat.le_of_ble_eq_true rfl⟩ ⟨Nat.zero_le _, Nat.zero_le _⟩ dX13_gap_7 (fun r3 M2 h => ?_)
  refine ra_aload_n E dX13_gap_10 rfl 0 rfl ?_
  refine ra_iconst E dX13_gap_11 ki_5 ?_
  refine ra_callIV (rest := [_]) E (c_X13_sumOf _ _ _ h) lq_13 cv_X13_sumOf ml_X13_164 (by decide) (lmM (by decide)) (fun R => ⟨_, cel_699 tc ad R⟩) rfl rfl rfl (Nat.le_of_ble_eq_true rfl) ⟨Nat.le_of_ble_eq_true rfl, Nat.le_of_ble_eq_true rfl⟩ ⟨Nat.zero_le _, Nat.zero_le _⟩ dX13_gap_12 (fun r5 M4 h => ?_)
  refine ra_iadd E dX13_gap_15 ?_
  refine ra_aload_n E dX13_gap_16 rfl 0 rfl ?_
  refine ra_bipush E dX13_gap_17 kb_40 ?_
  refine ra_callIV (rest := [_]) E (c_X13_sumAt _ _ _ h) lq_13 cv_X13_sumAt ml_X13_170 (by decide) (lmM (by decide)) (fun R => ⟨_, cel_699 tc ad R⟩) rfl rfl rfl (Nat.le_of_ble_eq_true rfl) ⟨Nat.le_of_ble_eq_true rfl, Nat.le_of_ble_eq_true rfl⟩ ⟨Nat.zero_le _, Nat.zero_le _⟩ dX13_gap_19 (fun r7 M6 h => ?_)
  refine ra_iadd E dX13_gap_22 ?_
  refine ra_istore_n (L' := [(1, _), (0, _)]) E dX13_gap_23 rfl (by decide) rfl ?_
  refine ra_aload_n E dX13_gap_24 rfl 1 rfl ?_
  obtain ⟨g8, h⟩ := h
  refine gf_X13_6 E lm13 fl_X13_28 dX13_gap_25 ?_
  refine ra_bipush E dX13_gap_28 kb_7 ?_
  obtain ⟨g9, h⟩ := h
  refine ra_iald E (lmM (isRow_of g8).lt) (cel_row tc ad (isRow_of g8)) g9 dX13_gap_30 ?_
  refine ra_iload_n E dX13_gap_31 rfl 0 rfl ?_
  refine ra_isub E dX13_gap_32 ?_
  refine ra_callIS (rest := []) E (c_X13_sizeOf _ _ _ h) lq_13 ct_X13_sizeOf ml_X13_173 (by decide) rfl rfl (Nat.le_of_ble_eq_true rfl) ⟨Nat.le_of_ble_eq_true rfl, Nat.le_of_ble_eq_true rfl⟩ ⟨Nat.zero_le _, Nat.zero_le _⟩ dX13_gap_33 (fun r11 M10 h => ?_)
  refine ra_aload_n E dX13_gap_36 rfl 1 rfl ?_
  obtain ⟨g12, h⟩ := h
  refine gf_X13_6 E lm13 fl_X13_28 dX13_gap_37 ?_
  refine ra_iconst E dX13_gap_40 ki_5 ?_
  obtain ⟨g13, h⟩ := h
  refine ra_iald E (lmM (isRow_of g12).lt) (cel_row tc ad (isRow_of g12)) g13 dX13_gap_41 ?_
  refine ra_aload_n E dX13_gap_42 rfl 1 rfl ?_
  refine ra_bipush E dX13_gap_43 kb_56 ?_
  refine ra_callIV (rest := [_, _]) E (c_X13_sumAt _ _ _ h) lq_13 cv_X13_sumAt ml_X13_170 (by decide) (lmM (by decide)) (fun R => ⟨_, cel_699 tc ad R⟩) rfl rfl rfl (Nat.le_of_ble_eq_true rfl) ⟨Nat.le_of_ble_eq_true rfl, Nat.le_of_ble_eq_true rfl⟩ ⟨Nat.zero_le _, Nat.zero_le _⟩ dX13_gap_45 (fun r15 M14 h => ?_)
  refine ra_isub E dX13_gap_48 ?_
  refine ra_callIS (rest := [_]) E (c_X13_sizeOf _ _ _ h) lq_13 ct_X13_sizeOf ml_X13_173 (by decide) rfl rfl (Nat.le_of_ble_eq_true rfl) ⟨Nat.le_of_ble_eq_true rfl, Nat.le_of_ble_eq_true rfl⟩ ⟨Nat.zero_le _, Nat.zero_le _⟩ dX13_gap_49 (fun r17 M16 h => ?_)
  refine ra_iadd E dX13_gap_52 ?_
  exact ra_iret E hr dX13_gap_53 h
def f_X13_goOn (p1 : Int32) (M : TM) (K : TM → Prop) : Prop := f_X13_of p1 (1 : Int32) M (fun r2 M1 => f_X13_of p1 (0 : Int32) M1 (fun r4 M3 => ((r2 ≤ r4 → f_X13_add p1 (0 : Int32) (-1 : Int32) M3 (fun M6 => K M6)) ∧ (¬ r2 ≤ r4 → f_X13_add p1 (0 : Int32) (1 : Int32) M3 (fun M7 => K M7)))))
set_option maxRecDepth 100000 in
set_option maxHeartbeats 4000000 in
theorem c_X13_goOn {ad : Nat → Nat} (p1 : Int32) (M : TM) (K : TM → Prop) (h : f_X13_goOn p1 M K) : MV yX13_goOn cX13_goOn 2 2 ad [.ref (ad 699), .int p1] M K := by
  refine MV_of RX13 rfl (by decide +kernel) (Nat.le_of_ble_eq_true rfl) (fun p l e s m below meth c D tc E hr => ?_)
  unfold f_X13_goOn at h
  refine ra_aload_n E dX13_goOn_0 rfl 0 rfl ?_
  refine ra_iload_n E dX13_goOn_1 rfl 1 rfl ?_
  refine ra_iconst E dX13_goOn_2 ki_0 ?_
  refine ra_aload_n E dX13_goOn_3 rfl 0 rfl ?_
  refine ra_iload_n E dX13_goOn_4 rfl 1 rfl ?_
  refine ra_iconst E dX13_goOn_5 ki_1 ?_
  refine ra_callIV (rest := [_, _, _]) E (c_X13_of _ _ _ _ h) lq_13 cv_X13_of ml_X13_93 (by decide) (lmM (by decide)) (fun R => ⟨_, cel_699 tc ad R⟩) rfl rfl rfl (Nat.le_of_ble_eq_true rfl) ⟨Nat.le_of_ble_eq_true rfl, Nat.le_of_ble_eq_true rfl⟩ ⟨Nat.zero_le _, Nat.zero_le _⟩ dX13_goOn_6 (fun r2 M1 h => ?_)
  refine ra_aload_n E dX13_goOn_9 rfl 0 rfl ?_
  refine ra_iload_n E dX13_goOn_10 rfl 1 rfl ?_
  refine ra_iconst E dX13_goOn_11 ki_0 ?_
  refine ra_callIV (rest := [_, _, _, _]) E (c_X13_of _ _ _ _ h) lq_13 cv_X13_of ml_X13_93 (by decide) (lmM (by decide)) (fun R => ⟨_, cel_699 tc ad R⟩) rfl rfl rfl (Nat.le_of_ble_eq_true rfl) ⟨Nat.le_of_ble_eq_true rfl, Nat.le_of_ble_eq_true rfl⟩ ⟨Nat.zero_le _, Nat.zero_le _⟩ dX13_goOn_12 (fun r4 M3 h => ?_)
  refine ra_icmp_le (tgt := 22) E dX13_goOn_15 (by decide) (fun q5 => ?_) (fun q5 => ?_)
  · replace h := h.1 q5
    refine ra_iconst E dX13_goOn_22 ki_m1 ?_
    refine ra_callVV (rest := []) E (c_X13_add _ _ _ _ _ h) lq_13 cv_X13_add ml_X13_176 (by decide) (lmM (by decide)) (fun R => ⟨_, cel_699 tc ad R⟩) rfl rfl rfl (Nat.le_of_ble_eq_true rfl) ⟨Nat.le_of_ble_eq_true rfl, Nat.le_of_ble_eq_true rfl⟩ ⟨Nat.zero_le _, Nat.zero_le _⟩ dX13_goOn_23 (fun M6 h => ?_)
    exact ra_vret E hr dX13_goOn_26 h
  · replace h := h.2 q5
    refine ra_iconst E dX13_goOn_18 ki_1 ?_
    refine ra_goto (tgt := 23) E dX13_goOn_19 (by decide) ?_
    refine ra_callVV (rest := []) E (c_X13_add _ _ _ _ _ h) lq_13 cv_X13_add ml_X13_176 (by decide) (lmM (by decide)) (fun R => ⟨_, cel_699 tc ad R⟩) rfl rfl rfl (Nat.le_of_ble_eq_true rfl) ⟨Nat.le_of_ble_eq_true rfl, Nat.le_of_ble_eq_true rfl⟩ ⟨Nat.zero_le _, Nat.zero_le _⟩ dX13_goOn_23 (fun M7 h => ?_)
    exact ra_vret E hr dX13_goOn_26 h
def f_X13_moveBarge (p1 : Int32) (M : TM) (K : TM → Prop) : Prop := f_X13_sectionAhead p1 M (fun r2 M1 => f_X13_isInLock p1 M1 (fun r4 M3 => ((r4 = 0 → vp_in (M3 699 6) 2 ∧ vp_in ((10 : Int32) + r2) 377 ∧ ((¬ (M3 (700 + (M3 699 6).toNatClampNeg) ((10 : Int32) + r2).toNatClampNeg) = 0 → f_X13_whoIsIn r2 M3 (fun r11 M10 => ((¬ r11 = (-1 : Int32) → K M10) ∧ (r11 = (-1 : Int32) → vp_in (M10 699 6) 2 ∧ vp_in ((10 : Int32) + r2) 377 ∧ f_X13_lay p1 (6 : Int32) (M10 (700 + (M10 699 6).toNatClampNeg) ((10 : Int32) + r2).toNatClampNeg) M10 (fun M15 => K M15))))) ∧ ((M3 (700 + (M3 699 6).toNatClampNeg) ((10 : Int32) + r2).toNatClampNeg) = 0 → f_X13_goOn p1 M3 (fun M16 => K M16)))) ∧ (¬ r4 = 0 → f_X13_add p1 (6 : Int32) (-1 : Int32) M3 (fun M17 => f_X13_isInLock p1 M17 (fun r19 M18 => ((¬ r19 = 0 → K M18) ∧ (r19 = 0 → f_X13_goOn p1 M18 (fun M22 => K M22)))))))))
set_option maxRecDepth 100000 in
set_option maxHeartbeats 4000000 in
theorem c_X13_moveBarge {ad : Nat → Nat} (p1 : Int32) (M : TM) (K : TM → Prop) (h : f_X13_moveBarge p1 M K) : MV yX13_moveBarge cX13_moveBarge 3 3 ad [.ref (ad 699), .int p1] M K := by
  refine MV_of RX13 rfl (by decide +kernel) (Nat.le_of_ble_eq_true rfl) (fun p l e s m below meth c D tc E hr => ?_)
  unfold f_X13_moveBarge at h
  refine ra_aload_n E dX13_moveBarge_0 rfl 0 rfl ?_
  refine ra_iload_n E dX13_moveBarge_1 rfl 1 rfl ?_
  refine ra_callIV (rest := []) E (c_X13_sectionAhead _ _ _ h) lq_13 cv_X13_sectionAhead ml_X13_108 (by decide) (lmM (by decide)) (fun R => ⟨_, cel_699 tc ad R⟩) rfl rfl rfl (Nat.le_of_ble_eq_true rfl) ⟨Nat.le_of_ble_eq_true rfl, Nat.le_of_ble_eq_true rfl⟩ ⟨Nat.zero_le _, Nat.zero_le _⟩ dX13_moveBarge_2 (fun r2 M1 h => ?_)
  refine ra_istore_n (L' := [(2, _), (0, _), (1, _)]) E dX13_moveBarge_5 rfl (by decide) rfl ?_
  refine ra_aload_n E dX13_moveBarge_6 rfl 1 rfl ?_
  refine ra_iload_n E dX13_moveBarge_7 rfl 2 rfl ?_
  refine ra_callIV (rest := []) E (c_X13_isInLock _ _ _ h) lq_13 cv_X13_isInLock ml_X13_104 (by decide) (lmM (by decide)) (fun R => ⟨_, cel_699 tc ad R⟩) rfl rfl rfl (Nat.le_of_ble_eq_true rfl) ⟨Nat.le_of_ble_eq_true rfl, Nat.le_of_ble_eq_true rfl⟩ ⟨Nat.zero_le _, Nat.zero_le _⟩ dX13_moveBarge_8 (fun r4 M3 h => ?_)
  obtain ⟨b5, h⟩ := h
  refine ra_if_eq (tgt := 38) E dX13_moveBarge_11 (by decide) (fun q6 => ?_) (fun q6 => ?_)
  · replace h := h.1 q6
    refine ra_aload_n E dX13_moveBarge_38 rfl 1 rfl ?_
    obtain ⟨g7, h⟩ := h
    refine gf_X13_6 E lm13 fl_X13_28 dX13_moveBarge_39 ?_
    refine ra_bipush E dX13_moveBarge_42 kb_10 ?_
    refine ra_iload_n E dX13_moveBarge_44 rfl 0 rfl ?_
    refine ra_iadd E dX13_moveBarge_45 ?_
    obtain ⟨g8, h⟩ := h
    refine ra_iald E (lmM (isRow_of g7).lt) (cel_row tc ad (isRow_of g7)) g8 dX13_moveBarge_46 ?_
    refine ra_if_ne (tgt := 58) E dX13_moveBarge_47 (by decide) (fun q9 => ?_) (fun q9 => ?_)
    · replace h := h.1 q9
      refine ra_aload_n E dX13_moveBarge_58 rfl 1 rfl ?_
      refine ra_iload_n E dX13_moveBarge_59 rfl 0 rfl ?_
      refine ra_callIV (rest := []) E (c_X13_whoIsIn _ _ _ h) lq_13 cv_X13_whoIsIn ml_X13_128 (by decide) (lmM (by decide)) (fun R => ⟨_, cel_699 tc ad R⟩) rfl rfl rfl (Nat.le_of_ble_eq_true rfl) ⟨Nat.le_of_ble_eq_true rfl, Nat.le_of_ble_eq_true rfl⟩ ⟨Nat.zero_le _, Nat.zero_le _⟩ dX13_moveBarge_60 (fun r11 M10 h => ?_)
      refine ra_iconst E dX13_moveBarge_63 ki_m1 ?_
      refine ra_icmp_ne (tgt := 83) E dX13_moveBarge_64 (by decide) (fun q12 => ?_) (fun q12 => ?_)
      · replace h := h.1 q12
        exact ra_vret E hr dX13_moveBarge_83 h
      · replace h := h.2 q12
        refine ra_aload_n E dX13_moveBarge_67 rfl 1 rfl ?_
        refine ra_iload_n E dX13_moveBarge_68 rfl 2 rfl ?_
        refine ra_bipush E dX13_moveBarge_69 kb_6 ?_
        refine ra_aload_n E dX13_moveBarge_71 rfl 1 rfl ?_
        obtain ⟨g13, h⟩ := h
        refine gf_X13_6 E lm13 fl_X13_28 dX13_moveBarge_72 ?_
        refine ra_bipush E dX13_moveBarge_75 kb_10 ?_
        refine ra_iload_n E dX13_moveBarge_77 rfl 0 rfl ?_
        refine ra_iadd E dX13_moveBarge_78 ?_
        obtain ⟨g14, h⟩ := h
        refine ra_iald E (lmM (isRow_of g13).lt) (cel_row tc ad (isRow_of g13)) g14 dX13_moveBarge_79 ?_
        refine ra_callVV (rest := []) E (c_X13_lay _ _ _ _ _ h) lq_13 cv_X13_lay ml_X13_86 (by decide) (lmM (by decide)) (fun R => ⟨_, cel_699 tc ad R⟩) rfl rfl rfl (Nat.le_of_ble_eq_true rfl) ⟨Nat.le_of_ble_eq_true rfl, Nat.le_of_ble_eq_true rfl⟩ ⟨Nat.zero_le _, Nat.zero_le _⟩ dX13_moveBarge_80 (fun M15 h => ?_)
        exact ra_vret E hr dX13_moveBarge_83 h
    · replace h := h.2 q9
      refine ra_aload_n E dX13_moveBarge_50 rfl 1 rfl ?_
      refine ra_iload_n E dX13_moveBarge_51 rfl 2 rfl ?_
      refine ra_callVV (rest := []) E (c_X13_goOn _ _ _ h) lq_13 cv_X13_goOn ml_X13_179 (by decide) (lmM (by decide)) (fun R => ⟨_, cel_699 tc ad R⟩) rfl rfl rfl (Nat.le_of_ble_eq_true rfl) ⟨Nat.le_of_ble_eq_true rfl, Nat.le_of_ble_eq_true rfl⟩ ⟨Nat.zero_le _, Nat.zero_le _⟩ dX13_moveBarge_52 (fun M16 h => ?_)
      refine ra_goto (tgt := 83) E dX13_moveBarge_55 (by decide) ?_
      exact ra_vret E hr dX13_moveBarge_83 h
  · replace h := h.2 q6
    refine ra_aload_n E dX13_moveBarge_14 rfl 1 rfl ?_
    refine ra_iload_n E dX13_moveBarge_15 rfl 2 rfl ?_
    refine ra_bipush E dX13_moveBarge_16 kb_6 ?_
    refine ra_iconst E dX13_moveBarge_18 ki_m1 ?_
    refine ra_callVV (rest := []) E (c_X13_add _ _ _ _ _ h) lq_13 cv_X13_add ml_X13_176 (by decide) (lmM (by decide)) (fun R => ⟨_, cel_699 tc ad R⟩) rfl rfl rfl (Nat.le_of_ble_eq_true rfl) ⟨Nat.le_of_ble_eq_true rfl, Nat.le_of_ble_eq_true rfl⟩ ⟨Nat.zero_le _, Nat.zero_le _⟩ dX13_moveBarge_19 (fun M17 h => ?_)
    refine ra_aload_n E dX13_moveBarge_22 rfl 1 rfl ?_
    refine ra_iload_n E dX13_moveBarge_23 rfl 2 rfl ?_
    refine ra_callIV (rest := []) E (c_X13_isInLock _ _ _ h) lq_13 cv_X13_isInLock ml_X13_104 (by decide) (lmM (by decide)) (fun R => ⟨_, cel_699 tc ad R⟩) rfl rfl rfl (Nat.le_of_ble_eq_true rfl) ⟨Nat.le_of_ble_eq_true rfl, Nat.le_of_ble_eq_true rfl⟩ ⟨Nat.zero_le _, Nat.zero_le _⟩ dX13_moveBarge_24 (fun r19 M18 h => ?_)
    obtain ⟨b20, h⟩ := h
    refine ra_if_ne (tgt := 83) E dX13_moveBarge_27 (by decide) (fun q21 => ?_) (fun q21 => ?_)
    · replace h := h.1 q21
      exact ra_vret E hr dX13_moveBarge_83 h
    · replace h := h.2 q21
      refine ra_aload_n E dX13_moveBarge_30 rfl 1 rfl ?_
      refine ra_iload_n E dX13_moveBarge_31 rfl 2 rfl ?_
      refine ra_callVV (rest := []) E (c_X13_goOn _ _ _ h) lq_13 cv_X13_goOn ml_X13_179 (by decide) (lmM (by decide)) (fun R => ⟨_, cel_699 tc ad R⟩) rfl rfl rfl (Nat.le_of_ble_eq_true rfl) ⟨Nat.le_of_ble_eq_true rfl, Nat.le_of_ble_eq_true rfl⟩ ⟨Nat.zero_le _, Nat.zero_le _⟩ dX13_moveBarge_32 (fun M22 h => ?_)
      refine ra_goto (tgt := 83) E dX13_moveBarge_35 (by decide) ?_
      exact ra_vret E hr dX13_moveBarge_83 h
def f_X13_pull_L56 (p1 : Int32) (K : TM → Prop) (x2 : Int32) (M : TM) : Prop := f_X13_ofOrder x2 (6 : Int32) M (fun r10 M9 => ((¬ r10 = (1 : Int32) → K M9) ∧ (r10 = (1 : Int32) → f_X13_ofOrder x2 (7 : Int32) M9 (fun r13 M12 => f_X13_layOrder x2 (7 : Int32) (r13 - (1 : Int32)) M12 (fun M14 => f_X13_ofOrder x2 (7 : Int32) M14 (fun r16 M15 => ((¬ r16 = 0 → f_X13_layOrder x2 (4 : Int32) (1 : Int32) M15 (fun M18 => K M18)) ∧ (r16 = 0 → f_X13_layOrder x2 (4 : Int32) (2 : Int32) M15 (fun M19 => K M19)))))))))
set_option maxRecDepth 100000 in
set_option maxHeartbeats 4000000 in
theorem l_X13_pull_L56 {p : Program} {l : Launch} {e : Env} {s : State} {m : MethodId} {args : Array Value} {below : List Frame} {meth : Method} {c : Code} {D : va_G} {tc : Nat → ClassId} {ad : Nat → Nat} (p1 : Int32) {K : TM → Prop} (E : Ev p s m args meth c D tc ad RX13 cX13_pull 4) (hr : meth.sig.returnType = none) : ∀ (x2 : Int32) (M : TM) , f_X13_pull_L56 p1 K x2 M → Wa p l e (rmD 5) s m args below meth c 0 0 (MQ below (va_Qv K (EndW D tc ad) (A0 ad s.heap.size)) args s 0 0 (A0 ad s.heap.size)) D tc ad 4 M 56 [(0, .ref (ad 699)), (2, .int x2)] [] := by
  intro x2 M  h
  unfold f_X13_pull_L56 at h
  refine ra_aload_n E dX13_pull_56 rfl 0 rfl ?_
  refine ra_iload_n E dX13_pull_57 rfl 1 rfl ?_
  refine ra_bipush E dX13_pull_58 kb_6 ?_
  refine ra_callIV (rest := []) E (c_X13_ofOrder _ _ _ _ h) lq_13 cv_X13_ofOrder ml_X13_101 (by decide) (lmM (by decide)) (fun R => ⟨_, cel_699 tc ad R⟩) rfl rfl rfl (Nat.le_of_ble_eq_true rfl) ⟨Nat.le_of_ble_eq_true rfl, Nat.le_of_ble_eq_true rfl⟩ ⟨Nat.zero_le _, Nat.zero_le _⟩ dX13_pull_60 (fun r10 M9 h => ?_)
  refine ra_iconst E dX13_pull_63 ki_1 ?_
  refine ra_icmp_ne (tgt := 104) E dX13_pull_64 (by decide) (fun q11 => ?_) (fun q11 => ?_)
  · replace h := h.1 q11
    exact ra_vret E hr dX13_pull_104 h
  · replace h := h.2 q11
    refine ra_aload_n E dX13_pull_67 rfl 0 rfl ?_
    refine ra_iload_n E dX13_pull_68 rfl 1 rfl ?_
    refine ra_bipush E dX13_pull_69 kb_7 ?_
    refine ra_aload_n E dX13_pull_71 rfl 0 rfl ?_
    refine ra_iload_n E dX13_pull_72 rfl 1 rfl ?_
    refine ra_bipush E dX13_pull_73 kb_7 ?_
    refine ra_callIV (rest := [_, _, _]) E (c_X13_ofOrder _ _ _ _ h) lq_13 cv_X13_ofOrder ml_X13_101 (by decide) (lmM (by decide)) (fun R => ⟨_, cel_699 tc ad R⟩) rfl rfl rfl (Nat.le_of_ble_eq_true rfl) ⟨Nat.le_of_ble_eq_true rfl, Nat.le_of_ble_eq_true rfl⟩ ⟨Nat.zero_le _, Nat.zero_le _⟩ dX13_pull_75 (fun r13 M12 h => ?_)
    refine ra_iconst E dX13_pull_78 ki_1 ?_
    refine ra_isub E dX13_pull_79 ?_
    refine ra_callVV (rest := []) E (c_X13_layOrder _ _ _ _ _ h) lq_13 cv_X13_layOrder ml_X13_90 (by decide) (lmM (by decide)) (fun R => ⟨_, cel_699 tc ad R⟩) rfl rfl rfl (Nat.le_of_ble_eq_true rfl) ⟨Nat.le_of_ble_eq_true rfl, Nat.le_of_ble_eq_true rfl⟩ ⟨Nat.zero_le _, Nat.zero_le _⟩ dX13_pull_80 (fun M14 h => ?_)
    refine ra_aload_n E dX13_pull_83 rfl 0 rfl ?_
    refine ra_iload_n E dX13_pull_84 rfl 1 rfl ?_
    refine ra_iconst E dX13_pull_85 ki_4 ?_
    refine ra_aload_n E dX13_pull_86 rfl 0 rfl ?_
    refine ra_iload_n E dX13_pull_87 rfl 1 rfl ?_
    refine ra_bipush E dX13_pull_88 kb_7 ?_
    refine ra_callIV (rest := [_, _, _]) E (c_X13_ofOrder _ _ _ _ h) lq_13 cv_X13_ofOrder ml_X13_101 (by decide) (lmM (by decide)) (fun R => ⟨_, cel_699 tc ad R⟩) rfl rfl rfl (Nat.le_of_ble_eq_true rfl) ⟨Nat.le_of_ble_eq_true rfl, Nat.le_of_ble_eq_true rfl⟩ ⟨Nat.zero_le _, Nat.zero_le _⟩ dX13_pull_90 (fun r16 M15 h => ?_)
    refine ra_if_ne (tgt := 100) E dX13_pull_93 (by decide) (fun q17 => ?_) (fun q17 => ?_)
    · replace h := h.1 q17
      refine ra_iconst E dX13_pull_100 ki_1 ?_
      refine ra_callVV (rest := []) E (c_X13_layOrder _ _ _ _ _ h) lq_13 cv_X13_layOrder ml_X13_90 (by decide) (lmM (by decide)) (fun R => ⟨_, cel_699 tc ad R⟩) rfl rfl rfl (Nat.le_of_ble_eq_true rfl) ⟨Nat.le_of_ble_eq_true rfl, Nat.le_of_ble_eq_true rfl⟩ ⟨Nat.zero_le _, Nat.zero_le _⟩ dX13_pull_101 (fun M18 h => ?_)
      exact ra_vret E hr dX13_pull_104 h
    · replace h := h.2 q17
      refine ra_iconst E dX13_pull_96 ki_2 ?_
      refine ra_goto (tgt := 101) E dX13_pull_97 (by decide) ?_
      refine ra_callVV (rest := []) E (c_X13_layOrder _ _ _ _ _ h) lq_13 cv_X13_layOrder ml_X13_90 (by decide) (lmM (by decide)) (fun R => ⟨_, cel_699 tc ad R⟩) rfl rfl rfl (Nat.le_of_ble_eq_true rfl) ⟨Nat.le_of_ble_eq_true rfl, Nat.le_of_ble_eq_true rfl⟩ ⟨Nat.zero_le _, Nat.zero_le _⟩ dX13_pull_101 (fun M19 h => ?_)
      exact ra_vret E hr dX13_pull_104 h
def f_X13_pull (p1 : Int32) (M : TM) (K : TM → Prop) : Prop := f_X13_queued p1 (0 : Int32) M (fun r2 M1 => ((¬ r2 = (-1 : Int32) → f_X13_ofOrder r2 (1 : Int32) M1 (fun r5 M4 => f_X13_ofOrder r2 (6 : Int32) M4 (fun r7 M6 => ((¬ r7 = 0 → f_X13_pull_L56 p1 K r2 M6) ∧ (r7 = 0 → f_X13_of p1 (3 : Int32) M6 (fun r21 M20 => ((r21 < r5 → f_X13_pull_L56 p1 K r2 M20) ∧ (¬ r21 < r5 → f_X13_add p1 (3 : Int32) (-r5) M20 (fun M23 => f_X13_layOrder r2 (6 : Int32) (1 : Int32) M23 (fun M24 => f_X13_pull_L56 p1 K r2 M24)))))))))) ∧ (r2 = (-1 : Int32) → K M1)))
set_option maxRecDepth 100000 in
set_option maxHeartbeats 4000000 in
theorem c_X13_pull {ad : Nat → Nat} (p1 : Int32) (M : TM) (K : TM → Prop) (h : f_X13_pull p1 M K) : MV yX13_pull cX13_pull 4 5 ad [.ref (ad 699), .int p1] M K := by
  refine MV_of RX13 rfl (by decide +kernel) (Nat.le_of_ble_eq_true rfl) (fun p l e s m below meth c D tc E hr => ?_)
  unfold f_X13_pull at h
  refine ra_aload_n E dX13_pull_0 rfl 0 rfl ?_
  refine ra_iload_n E dX13_pull_1 rfl 1 rfl ?_
  refine ra_iconst E dX13_pull_2 ki_0 ?_
  refine ra_callIV (rest := []) E (c_X13_queued _ _ _ _ h) lq_13 cv_X13_queued ml_X13_149 (by decide) (lmM (by decide)) (fun R => ⟨_, cel_699 tc ad R⟩) rfl rfl rfl (Nat.le_of_ble_eq_true rfl) ⟨Nat.le_of_ble_eq_true rfl, Nat.le_of_ble_eq_true rfl⟩ ⟨Nat.zero_le _, Nat.zero_le _⟩ dX13_pull_3 (fun r2 M1 h => ?_)
  refine ra_istore_n (L' := [(2, _), (0, _), (1, _)]) E dX13_pull_6 rfl (by decide) rfl ?_
  refine ra_iload_n E dX13_pull_7 rfl 0 rfl ?_
  refine ra_iconst E dX13_pull_8 ki_m1 ?_
  refine ra_icmp_ne (tgt := 13) E dX13_pull_9 (by decide) (fun q3 => ?_) (fun q3 => ?_)
  · replace h := h.1 q3
    refine ra_aload_n E dX13_pull_13 rfl 1 rfl ?_
    refine ra_iload_n E dX13_pull_14 rfl 0 rfl ?_
    refine ra_iconst E dX13_pull_15 ki_1 ?_
    refine ra_callIV (rest := []) E (c_X13_ofOrder _ _ _ _ h) lq_13 cv_X13_ofOrder ml_X13_101 (by decide) (lmM (by decide)) (fun R => ⟨_, cel_699 tc ad R⟩) rfl rfl rfl (Nat.le_of_ble_eq_true rfl) ⟨Nat.le_of_ble_eq_true rfl, Nat.le_of_ble_eq_true rfl⟩ ⟨Nat.zero_le _, Nat.zero_le _⟩ dX13_pull_16 (fun r5 M4 h => ?_)
    refine ra_istore_n (L' := [(3, _), (2, _), (0, _), (1, _)]) E dX13_pull_19 rfl (by decide) rfl ?_
    refine ra_aload_n E dX13_pull_20 rfl 2 rfl ?_
    refine ra_iload_n E dX13_pull_21 rfl 1 rfl ?_
    refine ra_bipush E dX13_pull_22 kb_6 ?_
    refine ra_callIV (rest := []) E (c_X13_ofOrder _ _ _ _ h) lq_13 cv_X13_ofOrder ml_X13_101 (by decide) (lmM (by decide)) (fun R => ⟨_, cel_699 tc ad R⟩) rfl rfl rfl (Nat.le_of_ble_eq_true rfl) ⟨Nat.le_of_ble_eq_true rfl, Nat.le_of_ble_eq_true rfl⟩ ⟨Nat.zero_le _, Nat.zero_le _⟩ dX13_pull_24 (fun r7 M6 h => ?_)
    refine ra_if_ne (tgt := 56) E dX13_pull_27 (by decide) (fun q8 => ?_) (fun q8 => ?_)
    · replace h := h.1 q8
      exact ra_sub (L' := [(0, _), (2, _)]) [2, 1] rfl (l_X13_pull_L56 p1 E hr _ _ h)
    · replace h := h.2 q8
      refine ra_aload_n E dX13_pull_30 rfl 2 rfl ?_
      refine ra_iload_n E dX13_pull_31 rfl 3 rfl ?_
      refine ra_iconst E dX13_pull_32 ki_3 ?_
      refine ra_callIV (rest := []) E (c_X13_of _ _ _ _ h) lq_13 cv_X13_of ml_X13_93 (by decide) (lmM (by decide)) (fun R => ⟨_, cel_699 tc ad R⟩) rfl rfl rfl (Nat.le_of_ble_eq_true rfl) ⟨Nat.le_of_ble_eq_true rfl, Nat.le_of_ble_eq_true rfl⟩ ⟨Nat.zero_le _, Nat.zero_le _⟩ dX13_pull_33 (fun r21 M20 h => ?_)
      refine ra_iload_n E dX13_pull_36 rfl 0 rfl ?_
      refine ra_icmp_lt (tgt := 56) E dX13_pull_37 (by decide) (fun q22 => ?_) (fun q22 => ?_)
      · replace h := h.1 q22
        exact ra_sub (L' := [(0, _), (2, _)]) [2, 1] rfl (l_X13_pull_L56 p1 E hr _ _ h)
      · replace h := h.2 q22
        refine ra_aload_n E dX13_pull_40 rfl 2 rfl ?_
        refine ra_iload_n E dX13_pull_41 rfl 3 rfl ?_
        refine ra_iconst E dX13_pull_42 ki_3 ?_
        refine ra_iload_n E dX13_pull_43 rfl 0 rfl ?_
        refine ra_ineg E dX13_pull_44 ?_
        refine ra_callVV (rest := []) E (c_X13_add _ _ _ _ _ h) lq_13 cv_X13_add ml_X13_176 (by decide) (lmM (by decide)) (fun R => ⟨_, cel_699 tc ad R⟩) rfl rfl rfl (Nat.le_of_ble_eq_true rfl) ⟨Nat.le_of_ble_eq_true rfl, Nat.le_of_ble_eq_true rfl⟩ ⟨Nat.zero_le _, Nat.zero_le _⟩ dX13_pull_45 (fun M23 h => ?_)
        refine ra_aload_n E dX13_pull_48 rfl 2 rfl ?_
        refine ra_iload_n E dX13_pull_49 rfl 1 rfl ?_
        refine ra_bipush E dX13_pull_50 kb_6 ?_
        refine ra_iconst E dX13_pull_52 ki_1 ?_
        refine ra_callVV (rest := []) E (c_X13_layOrder _ _ _ _ _ h) lq_13 cv_X13_layOrder ml_X13_90 (by decide) (lmM (by decide)) (fun R => ⟨_, cel_699 tc ad R⟩) rfl rfl rfl (Nat.le_of_ble_eq_true rfl) ⟨Nat.le_of_ble_eq_true rfl, Nat.le_of_ble_eq_true rfl⟩ ⟨Nat.zero_le _, Nat.zero_le _⟩ dX13_pull_53 (fun M24 h => ?_)
        exact ra_sub (L' := [(0, _), (2, _)]) [2, 1] rfl (l_X13_pull_L56 p1 E hr _ _ h)
  · replace h := h.2 q3
    exact ra_vret E hr dX13_pull_12 h
def f_X13_canServe (p1 : Int32) (p2 : Int32) (M : TM) (K : Int32 → TM → Prop) : Prop := f_X13_belongs p2 p1 (2 : Int32) M (fun r2 M1 => ((r2 = 0 → K (0 : Int32) M1) ∧ (¬ r2 = 0 → f_X13_ofOrder p2 (0 : Int32) M1 (fun r6 M5 => f_X13_of p1 (0 : Int32) M5 (fun r8 M7 => ((¬ r6 = r8 → K (0 : Int32) M7) ∧ (r6 = r8 → f_X13_of p1 (4 : Int32) M7 (fun r11 M10 => f_X13_ofOrder p2 (1 : Int32) M10 (fun r13 M12 => ((r11 < r13 → K (0 : Int32) M12) ∧ (¬ r11 < r13 → K (1 : Int32) M12)))))))))))
set_option maxRecDepth 100000 in
set_option maxHeartbeats 4000000 in
theorem c_X13_canServe {ad : Nat → Nat} (p1 : Int32) (p2 : Int32) (M : TM) (K : Int32 → TM → Prop) (h : f_X13_canServe p1 p2 M K) : MI yX13_canServe cX13_canServe 3 (some .boolean) 3 ad [.ref (ad 699), .int p1, .int p2] M (fun r M' => (r = 0 ∨ r = 1) ∧ K r M') := by
  refine MI_of RX13 rfl (by decide +kernel) (Nat.le_of_ble_eq_true rfl) (fun p l e s m below meth c D tc E hr => ?_)
  unfold f_X13_canServe at h
  refine ra_aload_n E dX13_canServe_0 rfl 0 rfl ?_
  refine ra_iload_n E dX13_canServe_1 rfl 2 rfl ?_
  refine ra_iload_n E dX13_canServe_2 rfl 1 rfl ?_
  refine ra_iconst E dX13_canServe_3 ki_2 ?_
  refine ra_callIV (rest := []) E (c_X13_belongs _ _ _ _ _ h) lq_13 cv_X13_belongs ml_X13_119 (by decide) (lmM (by decide)) (fun R => ⟨_, cel_699 tc ad R⟩) rfl rfl rfl (Nat.le_of_ble_eq_true rfl) ⟨Nat.le_of_ble_eq_true rfl, Nat.le_of_ble_eq_true rfl⟩ ⟨Nat.zero_le _, Nat.zero_le _⟩ dX13_canServe_4 (fun r2 M1 h => ?_)
  obtain ⟨b3, h⟩ := h
  refine ra_if_eq (tgt := 44) E dX13_canServe_7 (by decide) (fun q4 => ?_) (fun q4 => ?_)
  · replace h := h.1 q4
    refine ra_iconst E dX13_canServe_44 ki_0 ?_
    exact ra_zret E hr rfl dX13_canServe_45 ⟨Or.inl rfl, h⟩
  · replace h := h.2 q4
    refine ra_aload_n E dX13_canServe_10 rfl 0 rfl ?_
    refine ra_iload_n E dX13_canServe_11 rfl 2 rfl ?_
    refine ra_iconst E dX13_canServe_12 ki_0 ?_
    refine ra_callIV (rest := []) E (c_X13_ofOrder _ _ _ _ h) lq_13 cv_X13_ofOrder ml_X13_101 (by decide) (lmM (by decide)) (fun R => ⟨_, cel_699 tc ad R⟩) rfl rfl rfl (Nat.le_of_ble_eq_true rfl) ⟨Nat.le_of_ble_eq_true rfl, Nat.le_of_ble_eq_true rfl⟩ ⟨Nat.zero_le _, Nat.zero_le _⟩ dX13_canServe_13 (fun r6 M5 h => ?_)
    refine ra_aload_n E dX13_canServe_16 rfl 0 rfl ?_
    refine ra_iload_n E dX13_canServe_17 rfl 1 rfl ?_
    refine ra_iconst E dX13_canServe_18 ki_0 ?_
    refine ra_callIV (rest := [_]) E (c_X13_of _ _ _ _ h) lq_13 cv_X13_of ml_X13_93 (by decide) (lmM (by decide)) (fun R => ⟨_, cel_699 tc ad R⟩) rfl rfl rfl (Nat.le_of_ble_eq_true rfl) ⟨Nat.le_of_ble_eq_true rfl, Nat.le_of_ble_eq_true rfl⟩ ⟨Nat.zero_le _, Nat.zero_le _⟩ dX13_canServe_19 (fun r8 M7 h => ?_)
    refine ra_icmp_ne (tgt := 44) E dX13_canServe_22 (by decide) (fun q9 => ?_) (fun q9 => ?_)
    · replace h := h.1 q9
      refine ra_iconst E dX13_canServe_44 ki_0 ?_
      exact ra_zret E hr rfl dX13_canServe_45 ⟨Or.inl rfl, h⟩
    · replace h := h.2 q9
      refine ra_aload_n E dX13_canServe_25 rfl 0 rfl ?_
      refine ra_iload_n E dX13_canServe_26 rfl 1 rfl ?_
      refine ra_iconst E dX13_canServe_27 ki_4 ?_
      refine ra_callIV (rest := []) E (c_X13_of _ _ _ _ h) lq_13 cv_X13_of ml_X13_93 (by decide) (lmM (by decide)) (fun R => ⟨_, cel_699 tc ad R⟩) rfl rfl rfl (Nat.le_of_ble_eq_true rfl) ⟨Nat.le_of_ble_eq_true rfl, Nat.le_of_ble_eq_true rfl⟩ ⟨Nat.zero_le _, Nat.zero_le _⟩ dX13_canServe_28 (fun r11 M10 h => ?_)
      refine ra_aload_n E dX13_canServe_31 rfl 0 rfl ?_
      refine ra_iload_n E dX13_canServe_32 rfl 2 rfl ?_
      refine ra_iconst E dX13_canServe_33 ki_1 ?_
      refine ra_callIV (rest := [_]) E (c_X13_ofOrder _ _ _ _ h) lq_13 cv_X13_ofOrder ml_X13_101 (by decide) (lmM (by decide)) (fun R => ⟨_, cel_699 tc ad R⟩) rfl rfl rfl (Nat.le_of_ble_eq_true rfl) ⟨Nat.le_of_ble_eq_true rfl, Nat.le_of_ble_eq_true rfl⟩ ⟨Nat.zero_le _, Nat.zero_le _⟩ dX13_canServe_34 (fun r13 M12 h => ?_)
      refine ra_icmp_lt (tgt := 44) E dX13_canServe_37 (by decide) (fun q14 => ?_) (fun q14 => ?_)
      · replace h := h.1 q14
        refine ra_iconst E dX13_canServe_44 ki_0 ?_
        exact ra_zret E hr rfl dX13_canServe_45 ⟨Or.inl rfl, h⟩
      · replace h := h.2 q14
        refine ra_iconst E dX13_canServe_40 ki_1 ?_
        refine ra_goto (tgt := 45) E dX13_canServe_41 (by decide) ?_
        exact ra_zret E hr rfl dX13_canServe_45 ⟨Or.inr rfl, h⟩
def f_X13_eat (p1 : Int32) (p2 : Int32) (M : TM) (K : TM → Prop) : Prop := f_X13_ofOrder p2 (1 : Int32) M (fun r2 M1 => f_X13_add p1 (4 : Int32) (-r2) M1 (fun M3 => vp_in (M3 699 6) 2 ∧ f_X13_of p1 (0 : Int32) M3 (fun r6 M5 => vp_in ((40 : Int32) + r6) 377 ∧ vp_in ((40 : Int32) + r6) 377 ∧ ∀ M9, M9 = u2 M5 (700 + (M3 699 6).toNatClampNeg) ((40 : Int32) + r6).toNatClampNeg ((M5 (700 + (M3 699 6).toNatClampNeg) ((40 : Int32) + r6).toNatClampNeg) + r2) → vp_in (M9 699 6) 2 ∧ f_X13_of p1 (0 : Int32) M9 (fun r12 M11 => vp_in ((56 : Int32) + r12) 377 ∧ vp_in ((56 : Int32) + r12) 377 ∧ ∀ M15, M15 = u2 M11 (700 + (M9 699 6).toNatClampNeg) ((56 : Int32) + r12).toNatClampNeg ((M11 (700 + (M9 699 6).toNatClampNeg) ((56 : Int32) + r12).toNatClampNeg) + r2) → vp_in (M15 699 6) 2 ∧ vp_in (5 : Int32) 377 ∧ vp_in (5 : Int32) 377 ∧ ∀ M19, M19 = u2 M15 (700 + (M15 699 6).toNatClampNeg) (5 : Int32).toNatClampNeg ((M15 (700 + (M15 699 6).toNatClampNeg) (5 : Int32).toNatClampNeg) + r2) → vp_in (M19 699 6) 2 ∧ vp_in (4 : Int32) 377 ∧ f_X13_priceOf p2 M19 (fun r23 M22 => vp_in (4 : Int32) 377 ∧ ∀ M25, M25 = u2 M22 (700 + (M19 699 6).toNatClampNeg) (4 : Int32).toNatClampNeg ((M19 (700 + (M19 699 6).toNatClampNeg) (4 : Int32).toNatClampNeg) + r23) → f_X13_layOrder p2 (4 : Int32) (3 : Int32) M25 (fun M26 => f_X13_layOrder p2 (5 : Int32) (-1 : Int32) M26 (fun M27 => K M27)))))))
set_option maxRecDepth 100000 in
set_option maxHeartbeats 4000000 in
theorem c_X13_eat {ad : Nat → Nat} (p1 : Int32) (p2 : Int32) (M : TM) (K : TM → Prop) (h : f_X13_eat p1 p2 M K) : MV yX13_eat cX13_eat 4 2 ad [.ref (ad 699), .int p1, .int p2] M K := by
  refine MV_of RX13 rfl (by decide +kernel) (Nat.le_of_ble_eq_true rfl) (fun p l e s m below meth c D tc E hr => ?_)
  unfold f_X13_eat at h
  refine ra_aload_n E dX13_eat_0 rfl 0 rfl ?_
  refine ra_iload_n E dX13_eat_1 rfl 2 rfl ?_
  refine ra_iconst E dX13_eat_2 ki_1 ?_
  refine ra_callIV (rest := []) E (c_X13_ofOrder _ _ _ _ h) lq_13 cv_X13_ofOrder ml_X13_101 (by decide) (lmM (by decide)) (fun R => ⟨_, cel_699 tc ad R⟩) rfl rfl rfl (Nat.le_of_ble_eq_true rfl) ⟨Nat.le_of_ble_eq_true rfl, Nat.le_of_ble_eq_true rfl⟩ ⟨Nat.zero_le _, Nat.zero_le _⟩ dX13_eat_3 (fun r2 M1 h => ?_)
  refine ra_istore_n (L' := [(3, _), (0, _), (1, _), (2, _)]) E dX13_eat_6 rfl (by decide) rfl ?_
  refine ra_aload_n E dX13_eat_7 rfl 1 rfl ?_
  refine ra_iload_n E dX13_eat_8 rfl 2 rfl ?_
  refine ra_iconst E dX13_eat_9 ki_4 ?_
  refine ra_iload_n E dX13_eat_10 rfl 0 rfl ?_
  refine ra_ineg E dX13_eat_11 ?_
  refine ra_callVV (rest := []) E (c_X13_add _ _ _ _ _ h) lq_13 cv_X13_add ml_X13_176 (by decide) (lmM (by decide)) (fun R => ⟨_, cel_699 tc ad R⟩) rfl rfl rfl (Nat.le_of_ble_eq_true rfl) ⟨Nat.le_of_ble_eq_true rfl, Nat.le_of_ble_eq_true rfl⟩ ⟨Nat.zero_le _, Nat.zero_le _⟩ dX13_eat_12 (fun M3 h => ?_)
  refine ra_aload_n E dX13_eat_15 rfl 1 rfl ?_
  obtain ⟨g4, h⟩ := h
  refine gf_X13_6 E lm13 fl_X13_28 dX13_eat_16 ?_
  refine ra_bipush E dX13_eat_19 kb_40 ?_
  refine ra_aload_n E dX13_eat_21 rfl 1 rfl ?_
  refine ra_iload_n E dX13_eat_22 rfl 2 rfl ?_
  refine ra_iconst E dX13_eat_23 ki_0 ?_
  refine ra_callIV (rest := [_, _]) E (c_X13_of _ _ _ _ h) lq_13 cv_X13_of ml_X13_93 (by decide) (lmM (by decide)) (fun R => ⟨_, cel_699 tc ad R⟩) rfl rfl rfl (Nat.le_of_ble_eq_true rfl) ⟨Nat.le_of_ble_eq_true rfl, Nat.le_of_ble_eq_true rfl⟩ ⟨Nat.zero_le _, Nat.zero_le _⟩ dX13_eat_24 (fun r6 M5 h => ?_)
  refine ra_iadd E dX13_eat_27 ?_
  refine ra_dup2 E dX13_eat_28 rfl rfl ?_
  obtain ⟨g7, h⟩ := h
  refine ra_iald E (lmM (isRow_of g4).lt) (cel_row tc ad (isRow_of g4)) g7 dX13_eat_29 ?_
  refine ra_iload_n E dX13_eat_30 rfl 0 rfl ?_
  refine ra_iadd E dX13_eat_31 ?_
  obtain ⟨g8, h⟩ := h
  refine ra_iast E (lmM (isRow_of g4).lt) (cel_row tc ad (isRow_of g4)) g8 dX13_eat_32 ?_
  replace h := h _ rfl
  refine ra_aload_n E dX13_eat_33 rfl 1 rfl ?_
  obtain ⟨g10, h⟩ := h
  refine gf_X13_6 E lm13 fl_X13_28 dX13_eat_34 ?_
  refine ra_bipush E dX13_eat_37 kb_56 ?_
  refine ra_aload_n E dX13_eat_39 rfl 1 rfl ?_
  refine ra_iload_n E dX13_eat_40 rfl 2 rfl ?_
  refine ra_iconst E dX13_eat_41 ki_0 ?_
  refine ra_callIV (rest := [_, _]) E (c_X13_of _ _ _ _ h) lq_13 cv_X13_of ml_X13_93 (by decide) (lmM (by decide)) (fun R => ⟨_, cel_699 tc ad R⟩) rfl rfl rfl (Nat.le_of_ble_eq_true rfl) ⟨Nat.le_of_ble_eq_true rfl, Nat.le_of_ble_eq_true rfl⟩ ⟨Nat.zero_le _, Nat.zero_le _⟩ dX13_eat_42 (fun r12 M11 h => ?_)
  refine ra_iadd E dX13_eat_45 ?_
  refine ra_dup2 E dX13_eat_46 rfl rfl ?_
  obtain ⟨g13, h⟩ := h
  refine ra_iald E (lmM (isRow_of g10).lt) (cel_row tc ad (isRow_of g10)) g13 dX13_eat_47 ?_
  refine ra_iload_n E dX13_eat_48 rfl 0 rfl ?_
  refine ra_iadd E dX13_eat_49 ?_
  obtain ⟨g14, h⟩ := h
  refine ra_iast E (lmM (isRow_of g10).lt) (cel_row tc ad (isRow_of g10)) g14 dX13_eat_50 ?_
  replace h := h _ rfl
  refine ra_aload_n E dX13_eat_51 rfl 1 rfl ?_
  obtain ⟨g16, h⟩ := h
  refine gf_X13_6 E lm13 fl_X13_28 dX13_eat_52 ?_
  refine ra_iconst E dX13_eat_55 ki_5 ?_
  refine ra_dup2 E dX13_eat_56 rfl rfl ?_
  obtain ⟨g17, h⟩ := h
  refine ra_iald E (lmM (isRow_of g16).lt) (cel_row tc ad (isRow_of g16)) g17 dX13_eat_57 ?_
  refine ra_iload_n E dX13_eat_58 rfl 0 rfl ?_
  refine ra_iadd E dX13_eat_59 ?_
  obtain ⟨g18, h⟩ := h
  refine ra_iast E (lmM (isRow_of g16).lt) (cel_row tc ad (isRow_of g16)) g18 dX13_eat_60 ?_
  replace h := h _ rfl
  refine ra_aload_n E dX13_eat_61 rfl 1 rfl ?_
  obtain ⟨g20, h⟩ := h
  refine gf_X13_6 E lm13 fl_X13_28 dX13_eat_62 ?_
  refine ra_iconst E dX13_eat_65 ki_4 ?_
  refine ra_dup2 E dX13_eat_66 rfl rfl ?_
  obtain ⟨g21, h⟩ := h
  refine ra_iald E (lmM (isRow_of g20).lt) (cel_row tc ad (isRow_of g20)) g21 dX13_eat_67 ?_
  refine ra_aload_n E dX13_eat_68 rfl 1 rfl ?_
  refine ra_iload_n E dX13_eat_69 rfl 3 rfl ?_
  refine ra_callIV (rest := [_, _, _]) E (c_X13_priceOf _ _ _ h) lq_13 cv_X13_priceOf ml_X13_158 (by decide) (lmM (by decide)) (fun R => ⟨_, cel_699 tc ad R⟩) rfl rfl rfl (Nat.le_of_ble_eq_true rfl) ⟨Nat.le_of_ble_eq_true rfl, Nat.le_of_ble_eq_true rfl⟩ ⟨Nat.zero_le _, Nat.zero_le _⟩ dX13_eat_70 (fun r23 M22 h => ?_)
  refine ra_iadd E dX13_eat_73 ?_
  obtain ⟨g24, h⟩ := h
  refine ra_iast E (lmM (isRow_of g20).lt) (cel_row tc ad (isRow_of g20)) g24 dX13_eat_74 ?_
  replace h := h _ rfl
  refine ra_aload_n E dX13_eat_75 rfl 1 rfl ?_
  refine ra_iload_n E dX13_eat_76 rfl 3 rfl ?_
  refine ra_iconst E dX13_eat_77 ki_4 ?_
  refine ra_iconst E dX13_eat_78 ki_3 ?_
  refine ra_callVV (rest := []) E (c_X13_layOrder _ _ _ _ _ h) lq_13 cv_X13_layOrder ml_X13_90 (by decide) (lmM (by decide)) (fun R => ⟨_, cel_699 tc ad R⟩) rfl rfl rfl (Nat.le_of_ble_eq_true rfl) ⟨Nat.le_of_ble_eq_true rfl, Nat.le_of_ble_eq_true rfl⟩ ⟨Nat.zero_le _, Nat.zero_le _⟩ dX13_eat_79 (fun M26 h => ?_)
  refine ra_aload_n E dX13_eat_82 rfl 1 rfl ?_
  refine ra_iload_n E dX13_eat_83 rfl 3 rfl ?_
  refine ra_iconst E dX13_eat_84 ki_5 ?_
  refine ra_iconst E dX13_eat_85 ki_m1 ?_
  refine ra_callVV (rest := []) E (c_X13_layOrder _ _ _ _ _ h) lq_13 cv_X13_layOrder ml_X13_90 (by decide) (lmM (by decide)) (fun R => ⟨_, cel_699 tc ad R⟩) rfl rfl rfl (Nat.le_of_ble_eq_true rfl) ⟨Nat.le_of_ble_eq_true rfl, Nat.le_of_ble_eq_true rfl⟩ ⟨Nat.zero_le _, Nat.zero_le _⟩ dX13_eat_86 (fun M27 h => ?_)
  exact ra_vret E hr dX13_eat_89 h
def f_X13_serve_L4 (p1 : Int32) (K : Int32 → TM → Prop) : Nat → Int32 → Int32 → Int32 → TM → Prop
  | 0, _, _, _, _ => False
  | n + 1, x1, x2, x3, M => vp_in (M 699 6) 2 ∧ vp_in (3 : Int32) 377 ∧ (((M (700 + (M 699 6).toNatClampNeg) (3 : Int32).toNatClampNeg) ≤ x3 → K x2 M) ∧ (¬ (M (700 + (M 699 6).toNatClampNeg) (3 : Int32).toNatClampNeg) ≤ x3 → f_X13_canServe x1 x3 M (fun r5 M4 => ((r5 = 0 → f_X13_serve_L4 p1 K n x1 x2 (x3 + 1) M4) ∧ (¬ r5 = 0 → f_X13_eat x1 x3 M4 (fun M8 => f_X13_serve_L4 p1 K n x1 (x2 + 1) (x3 + 1) M8))))))
set_option maxRecDepth 100000 in
set_option maxHeartbeats 4000000 in
theorem l_X13_serve_L4 {p : Program} {l : Launch} {e : Env} {s : State} {m : MethodId} {args : Array Value} {below : List Frame} {meth : Method} {c : Code} {D : va_G} {tc : Nat → ClassId} {ad : Nat → Nat} (p1 : Int32) {K : Int32 → TM → Prop} (E : Ev p s m args meth c D tc ad RX13 cX13_serve 4) (hr : meth.sig.returnType = (some .int)) : ∀ (n : Nat) (x1 : Int32) (x2 : Int32) (x3 : Int32) (M : TM) , f_X13_serve_L4 p1 K n x1 x2 x3 M → Wa p l e (rmD 4) s m args below meth c 0 0 (MQ below (va_Qi K (EndW D tc ad) (A0 ad s.heap.size)) args s 0 0 (A0 ad s.heap.size)) D tc ad 4 M 4 [(0, .ref (ad 699)), (1, .int x1), (2, .int x2), (3, .int x3)] [] := by
  intro n
  induction n with
  | zero => intro x1 x2 x3 M  h; exact h.elim
  | succ n ih =>
    intro x1 x2 x3 M  h
    unfold f_X13_serve_L4 at h
    refine ra_iload_n E dX13_serve_4 rfl 3 rfl ?_
    refine ra_aload_n E dX13_serve_5 rfl 0 rfl ?_
    obtain ⟨g1, h⟩ := h
    refine gf_X13_6 E lm13 fl_X13_28 dX13_serve_6 ?_
    refine ra_iconst E dX13_serve_9 ki_3 ?_
    obtain ⟨g2, h⟩ := h
    refine ra_iald E (lmM (isRow_of g1).lt) (cel_row tc ad (isRow_of g1)) g2 dX13_serve_10 ?_
    refine ra_icmp_ge (tgt := 38) E dX13_serve_11 (by decide) (fun q3 => ?_) (fun q3 => ?_)
    · replace h := h.1 q3
      refine ra_iload_n E dX13_serve_38 rfl 2 rfl ?_
      exact ra_iret E hr dX13_serve_39 h
    · replace h := h.2 q3
      refine ra_aload_n E dX13_serve_14 rfl 0 rfl ?_
      refine ra_iload_n E dX13_serve_15 rfl 1 rfl ?_
      refine ra_iload_n E dX13_serve_16 rfl 3 rfl ?_
      refine ra_callIV (rest := []) E (c_X13_canServe _ _ _ _ h) lq_13 cv_X13_canServe ml_X13_182 (by decide) (lmM (by decide)) (fun R => ⟨_, cel_699 tc ad R⟩) rfl rfl rfl (Nat.le_of_ble_eq_true rfl) ⟨Nat.le_of_ble_eq_true rfl, Nat.le_of_ble_eq_true rfl⟩ ⟨Nat.zero_le _, Nat.zero_le _⟩ dX13_serve_17 (fun r5 M4 h => ?_)
      obtain ⟨b6, h⟩ := h
      refine ra_if_eq (tgt := 32) E dX13_serve_20 (by decide) (fun q7 => ?_) (fun q7 => ?_)
      · replace h := h.1 q7
        refine ra_iinc1 (L' := [(3, _), (0, _), (1, _), (2, _)]) E dX13_serve_32 3 rfl (by decide) rfl ?_
        refine ra_goto (tgt := 4) E dX13_serve_35 (by decide) ?_
        exact ra_sub (L' := [(0, _), (1, _), (2, _), (3, _)]) [1, 2, 3, 0] rfl (ih _ _ _ _ h)
      · replace h := h.2 q7
        refine ra_aload_n E dX13_serve_23 rfl 0 rfl ?_
        refine ra_iload_n E dX13_serve_24 rfl 1 rfl ?_
        refine ra_iload_n E dX13_serve_25 rfl 3 rfl ?_
        refine ra_callVV (rest := []) E (c_X13_eat _ _ _ _ h) lq_13 cv_X13_eat ml_X13_185 (by decide) (lmM (by decide)) (fun R => ⟨_, cel_699 tc ad R⟩) rfl rfl rfl (Nat.le_of_ble_eq_true rfl) ⟨Nat.le_of_ble_eq_true rfl, Nat.le_of_ble_eq_true rfl⟩ ⟨Nat.zero_le _, Nat.zero_le _⟩ dX13_serve_26 (fun M8 h => ?_)
        refine ra_iinc1 (L' := [(2, _), (0, _), (1, _), (3, _)]) E dX13_serve_29 2 rfl (by decide) rfl ?_
        refine ra_iinc1 (L' := [(3, _), (2, _), (0, _), (1, _)]) E dX13_serve_32 3 rfl (by decide) rfl ?_
        refine ra_goto (tgt := 4) E dX13_serve_35 (by decide) ?_
        exact ra_sub (L' := [(0, _), (1, _), (2, _), (3, _)]) [2, 3, 1, 0] rfl (ih _ _ _ _ h)
def f_X13_serve (p1 : Int32) (M : TM) (K : Int32 → TM → Prop) : Prop := ∃ n, f_X13_serve_L4 p1 K n p1 (0 : Int32) (0 : Int32) M
set_option maxRecDepth 100000 in
set_option maxHeartbeats 4000000 in
theorem c_X13_serve {ad : Nat → Nat} (p1 : Int32) (M : TM) (K : Int32 → TM → Prop) (h : f_X13_serve p1 M K) : MI yX13_serve cX13_serve 4 (some .int) 4 ad [.ref (ad 699), .int p1] M K := by
  refine MI_of RX13 rfl (by decide +kernel) (Nat.le_of_ble_eq_true rfl) (fun p l e s m below meth c D tc E hr => ?_)
  unfold f_X13_serve at h
  refine ra_iconst E dX13_serve_0 ki_0 ?_
  refine ra_istore_n (L' := [(2, _), (0, _), (1, _)]) E dX13_serve_1 rfl (by decide) rfl ?_
  refine ra_iconst E dX13_serve_2 ki_0 ?_
  refine ra_istore_n (L' := [(3, _), (2, _), (0, _), (1, _)]) E dX13_serve_3 rfl (by decide) rfl ?_
  obtain ⟨n9, h⟩ := h
  exact ra_sub (L' := [(0, _), (1, _), (2, _), (3, _)]) [2, 3, 1, 0] rfl (l_X13_serve_L4 p1 E hr n9 _ _ _ _ h)
def f_X13_expire_L2  (K : TM → Prop) : Nat → Int32 → TM → Prop
  | 0, _, _ => False
  | n + 1, x1, M => vp_in (M 699 6) 2 ∧ vp_in (3 : Int32) 377 ∧ (((M (700 + (M 699 6).toNatClampNeg) (3 : Int32).toNatClampNeg) ≤ x1 → K M) ∧ (¬ (M (700 + (M 699 6).toNatClampNeg) (3 : Int32).toNatClampNeg) ≤ x1 → f_X13_isAlive x1 M (fun r5 M4 => ((r5 = 0 → f_X13_expire_L2 K n (x1 + 1) M4) ∧ (¬ r5 = 0 → f_X13_ofOrder x1 (3 : Int32) M4 (fun r9 M8 => vp_in (M8 699 6) 2 ∧ vp_in (0 : Int32) 377 ∧ ((¬ r9 = (M8 (700 + (M8 699 6).toNatClampNeg) (0 : Int32).toNatClampNeg) → f_X13_expire_L2 K n (x1 + 1) M8) ∧ (r9 = (M8 (700 + (M8 699 6).toNatClampNeg) (0 : Int32).toNatClampNeg) → f_X13_layOrder x1 (4 : Int32) (4 : Int32) M8 (fun M13 => f_X13_layOrder x1 (5 : Int32) (-1 : Int32) M13 (fun M14 => vp_in (M14 699 6) 2 ∧ vp_in (4 : Int32) 377 ∧ vp_in (4 : Int32) 377 ∧ ∀ M18, M18 = u2 M14 (700 + (M14 699 6).toNatClampNeg) (4 : Int32).toNatClampNeg ((M14 (700 + (M14 699 6).toNatClampNeg) (4 : Int32).toNatClampNeg) - (2 : Int32)) → vp_in (M18 699 6) 2 ∧ vp_in (6 : Int32) 377 ∧ vp_in (6 : Int32) 377 ∧ ∀ M22, M22 = u2 M18 (700 + (M18 699 6).toNatClampNeg) (6 : Int32).toNatClampNeg ((M18 (700 + (M18 699 6).toNatClampNeg) (6 : Int32).toNatClampNeg) + (1 : Int32)) → f_X13_expire_L2 K n (x1 + 1) M22))))))))))
set_option maxRecDepth 100000 in
set_option maxHeartbeats 4000000 in
theorem l_X13_expire_L2 {p : Program} {l : Launch} {e : Env} {s : State} {m : MethodId} {args : Array Value} {below : List Frame} {meth : Method} {c : Code} {D : va_G} {tc : Nat → ClassId} {ad : Nat → Nat}  {K : TM → Prop} (E : Ev p s m args meth c D tc ad RX13 cX13_expire 2) (hr : meth.sig.returnType = none) : ∀ (n : Nat) (x1 : Int32) (M : TM) , f_X13_expire_L2  K n x1 M → Wa p l e (rmD 2) s m args below meth c 0 0 (MQ below (va_Qv K (EndW D tc ad) (A0 ad s.heap.size)) args s 0 0 (A0 ad s.heap.size)) D tc ad 2 M 2 [(0, .ref (ad 699)), (1, .int x1)] [] := by
  intro n
  induction n with
  | zero => intro x1 M  h; exact h.elim
  | succ n ih =>
    intro x1 M  h
    unfold f_X13_expire_L2 at h
    refine ra_iload_n E dX13_expire_2 rfl 1 rfl ?_
    refine ra_aload_n E dX13_expire_3 rfl 0 rfl ?_
    obtain ⟨g1, h⟩ := h
    refine gf_X13_6 E lm13 fl_X13_28 dX13_expire_4 ?_
    refine ra_iconst E dX13_expire_7 ki_3 ?_
    obtain ⟨g2, h⟩ := h
    refine ra_iald E (lmM (isRow_of g1).lt) (cel_row tc ad (isRow_of g1)) g2 dX13_expire_8 ?_
    refine ra_icmp_ge (tgt := 76) E dX13_expire_9 (by decide) (fun q3 => ?_) (fun q3 => ?_)
    · replace h := h.1 q3
      exact ra_vret E hr dX13_expire_76 h
    · replace h := h.2 q3
      refine ra_aload_n E dX13_expire_12 rfl 0 rfl ?_
      refine ra_iload_n E dX13_expire_13 rfl 1 rfl ?_
      refine ra_callIV (rest := []) E (c_X13_isAlive _ _ _ h) lq_13 cv_X13_isAlive ml_X13_137 (by decide) (lmM (by decide)) (fun R => ⟨_, cel_699 tc ad R⟩) rfl rfl rfl (Nat.le_of_ble_eq_true rfl) ⟨Nat.le_of_ble_eq_true rfl, Nat.le_of_ble_eq_true rfl⟩ ⟨Nat.zero_le _, Nat.zero_le _⟩ dX13_expire_14 (fun r5 M4 h => ?_)
      obtain ⟨b6, h⟩ := h
      refine ra_if_eq (tgt := 70) E dX13_expire_17 (by decide) (fun q7 => ?_) (fun q7 => ?_)
      · replace h := h.1 q7
        refine ra_iinc1 (L' := [(1, _), (0, _)]) E dX13_expire_70 1 rfl (by decide) rfl ?_
        refine ra_goto (tgt := 2) E dX13_expire_73 (by decide) ?_
        exact ra_sub (L' := [(0, _), (1, _)]) [1, 0] rfl (ih _ _ h)
      · replace h := h.2 q7
        refine ra_aload_n E dX13_expire_20 rfl 0 rfl ?_
        refine ra_iload_n E dX13_expire_21 rfl 1 rfl ?_
        refine ra_iconst E dX13_expire_22 ki_3 ?_
        refine ra_callIV (rest := []) E (c_X13_ofOrder _ _ _ _ h) lq_13 cv_X13_ofOrder ml_X13_101 (by decide) (lmM (by decide)) (fun R => ⟨_, cel_699 tc ad R⟩) rfl rfl rfl (Nat.le_of_ble_eq_true rfl) ⟨Nat.le_of_ble_eq_true rfl, Nat.le_of_ble_eq_true rfl⟩ ⟨Nat.zero_le _, Nat.zero_le _⟩ dX13_expire_23 (fun r9 M8 h => ?_)
        refine ra_aload_n E dX13_expire_26 rfl 0 rfl ?_
        obtain ⟨g10, h⟩ := h
        refine gf_X13_6 E lm13 fl_X13_28 dX13_expire_27 ?_
        refine ra_iconst E dX13_expire_30 ki_0 ?_
        obtain ⟨g11, h⟩ := h
        refine ra_iald E (lmM (isRow_of g10).lt) (cel_row tc ad (isRow_of g10)) g11 dX13_expire_31 ?_
        refine ra_icmp_ne (tgt := 70) E dX13_expire_32 (by decide) (fun q12 => ?_) (fun q12 => ?_)
        · replace h := h.1 q12
          refine ra_iinc1 (L' := [(1, _), (0, _)]) E dX13_expire_70 1 rfl (by decide) rfl ?_
          refine ra_goto (tgt := 2) E dX13_expire_73 (by decide) ?_
          exact ra_sub (L' := [(0, _), (1, _)]) [1, 0] rfl (ih _ _ h)
        · replace h := h.2 q12
          refine ra_aload_n E dX13_expire_35 rfl 0 rfl ?_
          refine ra_iload_n E dX13_expire_36 rfl 1 rfl ?_
          refine ra_iconst E dX13_expire_37 ki_4 ?_
          refine ra_iconst E dX13_expire_38 ki_4 ?_
          refine ra_callVV (rest := []) E (c_X13_layOrder _ _ _ _ _ h) lq_13 cv_X13_layOrder ml_X13_90 (by decide) (lmM (by decide)) (fun R => ⟨_, cel_699 tc ad R⟩) rfl rfl rfl (Nat.le_of_ble_eq_true rfl) ⟨Nat.le_of_ble_eq_true rfl, Nat.le_of_ble_eq_true rfl⟩ ⟨Nat.zero_le _, Nat.zero_le _⟩ dX13_expire_39 (fun M13 h => ?_)
          refine ra_aload_n E dX13_expire_42 rfl 0 rfl ?_
          refine ra_iload_n E dX13_expire_43 rfl 1 rfl ?_
          refine ra_iconst E dX13_expire_44 ki_5 ?_
          refine ra_iconst E dX13_expire_45 ki_m1 ?_
          refine ra_callVV (rest := []) E (c_X13_layOrder _ _ _ _ _ h) lq_13 cv_X13_layOrder ml_X13_90 (by decide) (lmM (by decide)) (fun R => ⟨_, cel_699 tc ad R⟩) rfl rfl rfl (Nat.le_of_ble_eq_true rfl) ⟨Nat.le_of_ble_eq_true rfl, Nat.le_of_ble_eq_true rfl⟩ ⟨Nat.zero_le _, Nat.zero_le _⟩ dX13_expire_46 (fun M14 h => ?_)
          refine ra_aload_n E dX13_expire_49 rfl 0 rfl ?_
          obtain ⟨g15, h⟩ := h
          refine gf_X13_6 E lm13 fl_X13_28 dX13_expire_50 ?_
          refine ra_iconst E dX13_expire_53 ki_4 ?_
          refine ra_dup2 E dX13_expire_54 rfl rfl ?_
          obtain ⟨g16, h⟩ := h
          refine ra_iald E (lmM (isRow_of g15).lt) (cel_row tc ad (isRow_of g15)) g16 dX13_expire_55 ?_
          refine ra_iconst E dX13_expire_56 ki_2 ?_
          refine ra_isub E dX13_expire_57 ?_
          obtain ⟨g17, h⟩ := h
          refine ra_iast E (lmM (isRow_of g15).lt) (cel_row tc ad (isRow_of g15)) g17 dX13_expire_58 ?_
          replace h := h _ rfl
          refine ra_aload_n E dX13_expire_59 rfl 0 rfl ?_
          obtain ⟨g19, h⟩ := h
          refine gf_X13_6 E lm13 fl_X13_28 dX13_expire_60 ?_
          refine ra_bipush E dX13_expire_63 kb_6 ?_
          refine ra_dup2 E dX13_expire_65 rfl rfl ?_
          obtain ⟨g20, h⟩ := h
          refine ra_iald E (lmM (isRow_of g19).lt) (cel_row tc ad (isRow_of g19)) g20 dX13_expire_66 ?_
          refine ra_iconst E dX13_expire_67 ki_1 ?_
          refine ra_iadd E dX13_expire_68 ?_
          obtain ⟨g21, h⟩ := h
          refine ra_iast E (lmM (isRow_of g19).lt) (cel_row tc ad (isRow_of g19)) g21 dX13_expire_69 ?_
          replace h := h _ rfl
          refine ra_iinc1 (L' := [(1, _), (0, _)]) E dX13_expire_70 1 rfl (by decide) rfl ?_
          refine ra_goto (tgt := 2) E dX13_expire_73 (by decide) ?_
          exact ra_sub (L' := [(0, _), (1, _)]) [1, 0] rfl (ih _ _ h)
def f_X13_expire  (M : TM) (K : TM → Prop) : Prop := ∃ n, f_X13_expire_L2 K n (0 : Int32) M
set_option maxRecDepth 100000 in
set_option maxHeartbeats 4000000 in
theorem c_X13_expire {ad : Nat → Nat}  (M : TM) (K : TM → Prop) (h : f_X13_expire  M K) : MV yX13_expire cX13_expire 2 2 ad [.ref (ad 699)] M K := by
  refine MV_of RX13 rfl (by decide +kernel) (Nat.le_of_ble_eq_true rfl) (fun p l e s m below meth c D tc E hr => ?_)
  unfold f_X13_expire at h
  refine ra_iconst E dX13_expire_0 ki_0 ?_
  refine ra_istore_n (L' := [(1, _), (0, _)]) E dX13_expire_1 rfl (by decide) rfl ?_
  obtain ⟨n23, h⟩ := h
  exact ra_sub (L' := [(0, _), (1, _)]) [1, 0] rfl (l_X13_expire_L2 E hr n23 _ _ h)
def f_X13_passMinute_L72  (K : Int32 → TM → Prop) : Nat → Int32 → Int32 → TM → Prop
  | 0, _, _, _ => False
  | n + 1, x1, x2, M => vp_in (M 699 6) 2 ∧ vp_in (2 : Int32) 377 ∧ (((M (700 + (M 699 6).toNatClampNeg) (2 : Int32).toNatClampNeg) ≤ x2 → f_X13_expire M (fun M13 => vp_in (M13 699 6) 2 ∧ vp_in (0 : Int32) 377 ∧ vp_in (0 : Int32) 377 ∧ ∀ M17, M17 = u2 M13 (700 + (M13 699 6).toNatClampNeg) (0 : Int32).toNatClampNeg ((M13 (700 + (M13 699 6).toNatClampNeg) (0 : Int32).toNatClampNeg) + (1 : Int32)) → K x1 M17)) ∧ (¬ (M (700 + (M 699 6).toNatClampNeg) (2 : Int32).toNatClampNeg) ≤ x2 → f_X13_isInLock x2 M (fun r19 M18 => ((r19 = 0 → f_X13_serve x2 M18 (fun r23 M22 => f_X13_passMinute_L72 K n (x1 + r23) (x2 + 1) M22)) ∧ (¬ r19 = 0 → f_X13_passMinute_L72 K n (x1 + (0 : Int32)) (x2 + 1) M18)))))
set_option maxRecDepth 100000 in
set_option maxHeartbeats 4000000 in
theorem l_X13_passMinute_L72 {p : Program} {l : Launch} {e : Env} {s : State} {m : MethodId} {args : Array Value} {below : List Frame} {meth : Method} {c : Code} {D : va_G} {tc : Nat → ClassId} {ad : Nat → Nat}  {K : Int32 → TM → Prop} (E : Ev p s m args meth c D tc ad RX13 cX13_passMinute 3) (hr : meth.sig.returnType = (some .int)) : ∀ (n : Nat) (x1 : Int32) (x2 : Int32) (M : TM) , f_X13_passMinute_L72  K n x1 x2 M → Wa p l e (rmD 6) s m args below meth c 0 0 (MQ below (va_Qi K (EndW D tc ad) (A0 ad s.heap.size)) args s 0 0 (A0 ad s.heap.size)) D tc ad 3 M 72 [(0, .ref (ad 699)), (1, .int x1), (2, .int x2)] [] := by
  intro n
  induction n with
  | zero => intro x1 x2 M  h; exact h.elim
  | succ n ih =>
    intro x1 x2 M  h
    unfold f_X13_passMinute_L72 at h
    refine ra_iload_n E dX13_passMinute_72 rfl 2 rfl ?_
    refine ra_aload_n E dX13_passMinute_73 rfl 0 rfl ?_
    obtain ⟨g10, h⟩ := h
    refine gf_X13_6 E lm13 fl_X13_28 dX13_passMinute_74 ?_
    refine ra_iconst E dX13_passMinute_77 ki_2 ?_
    obtain ⟨g11, h⟩ := h
    refine ra_iald E (lmM (isRow_of g10).lt) (cel_row tc ad (isRow_of g10)) g11 dX13_passMinute_78 ?_
    refine ra_icmp_ge (tgt := 108) E dX13_passMinute_79 (by decide) (fun q12 => ?_) (fun q12 => ?_)
    · replace h := h.1 q12
      refine ra_aload_n E dX13_passMinute_108 rfl 0 rfl ?_
      refine ra_callVV (rest := []) E (c_X13_expire _ _ h) lq_13 cv_X13_expire ml_X13_201 (by decide) (lmM (by decide)) (fun R => ⟨_, cel_699 tc ad R⟩) rfl rfl rfl (Nat.le_of_ble_eq_true rfl) ⟨Nat.le_of_ble_eq_true rfl, Nat.le_of_ble_eq_true rfl⟩ ⟨Nat.zero_le _, Nat.zero_le _⟩ dX13_passMinute_109 (fun M13 h => ?_)
      refine ra_aload_n E dX13_passMinute_112 rfl 0 rfl ?_
      obtain ⟨g14, h⟩ := h
      refine gf_X13_6 E lm13 fl_X13_28 dX13_passMinute_113 ?_
      refine ra_iconst E dX13_passMinute_116 ki_0 ?_
      refine ra_dup2 E dX13_passMinute_117 rfl rfl ?_
      obtain ⟨g15, h⟩ := h
      refine ra_iald E (lmM (isRow_of g14).lt) (cel_row tc ad (isRow_of g14)) g15 dX13_passMinute_118 ?_
      refine ra_iconst E dX13_passMinute_119 ki_1 ?_
      refine ra_iadd E dX13_passMinute_120 ?_
      obtain ⟨g16, h⟩ := h
      refine ra_iast E (lmM (isRow_of g14).lt) (cel_row tc ad (isRow_of g14)) g16 dX13_passMinute_121 ?_
      replace h := h _ rfl
      refine ra_iload_n E dX13_passMinute_122 rfl 1 rfl ?_
      exact ra_iret E hr dX13_passMinute_123 h
    · replace h := h.2 q12
      refine ra_iload_n E dX13_passMinute_82 rfl 1 rfl ?_
      refine ra_aload_n E dX13_passMinute_83 rfl 0 rfl ?_
      refine ra_iload_n E dX13_passMinute_84 rfl 2 rfl ?_
      refine ra_callIV (rest := [_]) E (c_X13_isInLock _ _ _ h) lq_13 cv_X13_isInLock ml_X13_104 (by decide) (lmM (by decide)) (fun R => ⟨_, cel_699 tc ad R⟩) rfl rfl rfl (Nat.le_of_ble_eq_true rfl) ⟨Nat.le_of_ble_eq_true rfl, Nat.le_of_ble_eq_true rfl⟩ ⟨Nat.zero_le _, Nat.zero_le _⟩ dX13_passMinute_85 (fun r19 M18 h => ?_)
      obtain ⟨b20, h⟩ := h
      refine ra_if_eq (tgt := 95) E dX13_passMinute_88 (by decide) (fun q21 => ?_) (fun q21 => ?_)
      · replace h := h.1 q21
        refine ra_aload_n E dX13_passMinute_95 rfl 0 rfl ?_
        refine ra_iload_n E dX13_passMinute_96 rfl 2 rfl ?_
        refine ra_callIV (rest := [_]) E (c_X13_serve _ _ _ h) lq_13 cv_X13_serve ml_X13_198 (by decide) (lmM (by decide)) (fun R => ⟨_, cel_699 tc ad R⟩) rfl rfl rfl (Nat.le_of_ble_eq_true rfl) ⟨Nat.le_of_ble_eq_true rfl, Nat.le_of_ble_eq_true rfl⟩ ⟨Nat.zero_le _, Nat.zero_le _⟩ dX13_passMinute_97 (fun r23 M22 h => ?_)
        refine ra_iadd E dX13_passMinute_100 ?_
        refine ra_istore_n (L' := [(1, _), (0, _), (2, _)]) E dX13_passMinute_101 rfl (by decide) rfl ?_
        refine ra_iinc1 (L' := [(2, _), (1, _), (0, _)]) E dX13_passMinute_102 2 rfl (by decide) rfl ?_
        refine ra_goto (tgt := 72) E dX13_passMinute_105 (by decide) ?_
        exact ra_sub (L' := [(0, _), (1, _), (2, _)]) [2, 1, 0] rfl (ih _ _ _ h)
      · replace h := h.2 q21
        refine ra_iconst E dX13_passMinute_91 ki_0 ?_
        refine ra_goto (tgt := 100) E dX13_passMinute_92 (by decide) ?_
        refine ra_iadd E dX13_passMinute_100 ?_
        refine ra_istore_n (L' := [(1, _), (0, _), (2, _)]) E dX13_passMinute_101 rfl (by decide) rfl ?_
        refine ra_iinc1 (L' := [(2, _), (1, _), (0, _)]) E dX13_passMinute_102 2 rfl (by decide) rfl ?_
        refine ra_goto (tgt := 72) E dX13_passMinute_105 (by decide) ?_
        exact ra_sub (L' := [(0, _), (1, _), (2, _)]) [2, 1, 0] rfl (ih _ _ _ h)
def f_X13_passMinute_L47  (K : Int32 → TM → Prop) : Nat → Int32 → TM → Prop
  | 0, _, _ => False
  | n + 1, x1, M => vp_in (M 699 6) 2 ∧ vp_in (2 : Int32) 377 ∧ (((M (700 + (M 699 6).toNatClampNeg) (2 : Int32).toNatClampNeg) ≤ x1 → ∃ n, f_X13_passMinute_L72 K n (0 : Int32) (0 : Int32) M) ∧ (¬ (M (700 + (M 699 6).toNatClampNeg) (2 : Int32).toNatClampNeg) ≤ x1 → f_X13_pull x1 M (fun M25 => f_X13_passMinute_L47 K n (x1 + 1) M25)))
set_option maxRecDepth 100000 in
set_option maxHeartbeats 4000000 in
theorem l_X13_passMinute_L47 {p : Program} {l : Launch} {e : Env} {s : State} {m : MethodId} {args : Array Value} {below : List Frame} {meth : Method} {c : Code} {D : va_G} {tc : Nat → ClassId} {ad : Nat → Nat}  {K : Int32 → TM → Prop} (E : Ev p s m args meth c D tc ad RX13 cX13_passMinute 3) (hr : meth.sig.returnType = (some .int)) : ∀ (n : Nat) (x1 : Int32) (M : TM) , f_X13_passMinute_L47  K n x1 M → Wa p l e (rmD 6) s m args below meth c 0 0 (MQ below (va_Qi K (EndW D tc ad) (A0 ad s.heap.size)) args s 0 0 (A0 ad s.heap.size)) D tc ad 3 M 47 [(0, .ref (ad 699)), (1, .int x1)] [] := by
  intro n
  induction n with
  | zero => intro x1 M  h; exact h.elim
  | succ n ih =>
    intro x1 M  h
    unfold f_X13_passMinute_L47 at h
    refine ra_iload_n E dX13_passMinute_47 rfl 1 rfl ?_
    refine ra_aload_n E dX13_passMinute_48 rfl 0 rfl ?_
    obtain ⟨g7, h⟩ := h
    refine gf_X13_6 E lm13 fl_X13_28 dX13_passMinute_49 ?_
    refine ra_iconst E dX13_passMinute_52 ki_2 ?_
    obtain ⟨g8, h⟩ := h
    refine ra_iald E (lmM (isRow_of g7).lt) (cel_row tc ad (isRow_of g7)) g8 dX13_passMinute_53 ?_
    refine ra_icmp_ge (tgt := 68) E dX13_passMinute_54 (by decide) (fun q9 => ?_) (fun q9 => ?_)
    · replace h := h.1 q9
      refine ra_iconst E dX13_passMinute_68 ki_0 ?_
      refine ra_istore_n (L' := [(1, _), (0, _)]) E dX13_passMinute_69 rfl (by decide) rfl ?_
      refine ra_iconst E dX13_passMinute_70 ki_0 ?_
      refine ra_istore_n (L' := [(2, _), (1, _), (0, _)]) E dX13_passMinute_71 rfl (by decide) rfl ?_
      obtain ⟨n24, h⟩ := h
      exact ra_sub (L' := [(0, _), (1, _), (2, _)]) [2, 1, 0] rfl (l_X13_passMinute_L72 E hr n24 _ _ _ h)
    · replace h := h.2 q9
      refine ra_aload_n E dX13_passMinute_57 rfl 0 rfl ?_
      refine ra_iload_n E dX13_passMinute_58 rfl 1 rfl ?_
      refine ra_callVV (rest := []) E (c_X13_pull _ _ _ h) lq_13 cv_X13_pull ml_X13_195 (by decide) (lmM (by decide)) (fun R => ⟨_, cel_699 tc ad R⟩) rfl rfl rfl (Nat.le_of_ble_eq_true rfl) ⟨Nat.le_of_ble_eq_true rfl, Nat.le_of_ble_eq_true rfl⟩ ⟨Nat.zero_le _, Nat.zero_le _⟩ dX13_passMinute_59 (fun M25 h => ?_)
      refine ra_iinc1 (L' := [(1, _), (0, _)]) E dX13_passMinute_62 1 rfl (by decide) rfl ?_
      refine ra_goto (tgt := 47) E dX13_passMinute_65 (by decide) ?_
      exact ra_sub (L' := [(0, _), (1, _)]) [1, 0] rfl (ih _ _ h)
def f_X13_passMinute_L16  (K : Int32 → TM → Prop) : Nat → Int32 → TM → Prop
  | 0, _, _ => False
  | n + 1, x1, M => vp_in (M 699 6) 2 ∧ vp_in (2 : Int32) 377 ∧ (((M (700 + (M 699 6).toNatClampNeg) (2 : Int32).toNatClampNeg) ≤ x1 → ∃ n, f_X13_passMinute_L47 K n (0 : Int32) M) ∧ (¬ (M (700 + (M 699 6).toNatClampNeg) (2 : Int32).toNatClampNeg) ≤ x1 → f_X13_sails x1 M (fun r28 M27 => ((r28 = 0 → f_X13_passMinute_L16 K n (x1 + 1) M27) ∧ (¬ r28 = 0 → f_X13_moveBarge x1 M27 (fun M31 => f_X13_passMinute_L16 K n (x1 + 1) M31))))))
set_option maxRecDepth 100000 in
set_option maxHeartbeats 4000000 in
theorem l_X13_passMinute_L16 {p : Program} {l : Launch} {e : Env} {s : State} {m : MethodId} {args : Array Value} {below : List Frame} {meth : Method} {c : Code} {D : va_G} {tc : Nat → ClassId} {ad : Nat → Nat}  {K : Int32 → TM → Prop} (E : Ev p s m args meth c D tc ad RX13 cX13_passMinute 3) (hr : meth.sig.returnType = (some .int)) : ∀ (n : Nat) (x1 : Int32) (M : TM) , f_X13_passMinute_L16  K n x1 M → Wa p l e (rmD 6) s m args below meth c 0 0 (MQ below (va_Qi K (EndW D tc ad) (A0 ad s.heap.size)) args s 0 0 (A0 ad s.heap.size)) D tc ad 3 M 16 [(0, .ref (ad 699)), (1, .int x1)] [] := by
  intro n
  induction n with
  | zero => intro x1 M  h; exact h.elim
  | succ n ih =>
    intro x1 M  h
    unfold f_X13_passMinute_L16 at h
    refine ra_iload_n E dX13_passMinute_16 rfl 1 rfl ?_
    refine ra_aload_n E dX13_passMinute_17 rfl 0 rfl ?_
    obtain ⟨g4, h⟩ := h
    refine gf_X13_6 E lm13 fl_X13_28 dX13_passMinute_18 ?_
    refine ra_iconst E dX13_passMinute_21 ki_2 ?_
    obtain ⟨g5, h⟩ := h
    refine ra_iald E (lmM (isRow_of g4).lt) (cel_row tc ad (isRow_of g4)) g5 dX13_passMinute_22 ?_
    refine ra_icmp_ge (tgt := 45) E dX13_passMinute_23 (by decide) (fun q6 => ?_) (fun q6 => ?_)
    · replace h := h.1 q6
      refine ra_iconst E dX13_passMinute_45 ki_0 ?_
      refine ra_istore_n (L' := [(1, _), (0, _)]) E dX13_passMinute_46 rfl (by decide) rfl ?_
      obtain ⟨n26, h⟩ := h
      exact ra_sub (L' := [(0, _), (1, _)]) [1, 0] rfl (l_X13_passMinute_L47 E hr n26 _ _ h)
    · replace h := h.2 q6
      refine ra_aload_n E dX13_passMinute_26 rfl 0 rfl ?_
      refine ra_iload_n E dX13_passMinute_27 rfl 1 rfl ?_
      refine ra_callIV (rest := []) E (c_X13_sails _ _ _ h) lq_13 cv_X13_sails ml_X13_189 (by decide) (lmM (by decide)) (fun R => ⟨_, cel_699 tc ad R⟩) rfl rfl rfl (Nat.le_of_ble_eq_true rfl) ⟨Nat.le_of_ble_eq_true rfl, Nat.le_of_ble_eq_true rfl⟩ ⟨Nat.zero_le _, Nat.zero_le _⟩ dX13_passMinute_28 (fun r28 M27 h => ?_)
      obtain ⟨b29, h⟩ := h
      refine ra_if_eq (tgt := 39) E dX13_passMinute_31 (by decide) (fun q30 => ?_) (fun q30 => ?_)
      · replace h := h.1 q30
        refine ra_iinc1 (L' := [(1, _), (0, _)]) E dX13_passMinute_39 1 rfl (by decide) rfl ?_
        refine ra_goto (tgt := 16) E dX13_passMinute_42 (by decide) ?_
        exact ra_sub (L' := [(0, _), (1, _)]) [1, 0] rfl (ih _ _ h)
      · replace h := h.2 q30
        refine ra_aload_n E dX13_passMinute_34 rfl 0 rfl ?_
        refine ra_iload_n E dX13_passMinute_35 rfl 1 rfl ?_
        refine ra_callVV (rest := []) E (c_X13_moveBarge _ _ _ h) lq_13 cv_X13_moveBarge ml_X13_192 (by decide) (lmM (by decide)) (fun R => ⟨_, cel_699 tc ad R⟩) rfl rfl rfl (Nat.le_of_ble_eq_true rfl) ⟨Nat.le_of_ble_eq_true rfl, Nat.le_of_ble_eq_true rfl⟩ ⟨Nat.zero_le _, Nat.zero_le _⟩ dX13_passMinute_36 (fun M31 h => ?_)
        refine ra_iinc1 (L' := [(1, _), (0, _)]) E dX13_passMinute_39 1 rfl (by decide) rfl ?_
        refine ra_goto (tgt := 16) E dX13_passMinute_42 (by decide) ?_
        exact ra_sub (L' := [(0, _), (1, _)]) [1, 0] rfl (ih _ _ h)
def f_X13_passMinute  (M : TM) (K : Int32 → TM → Prop) : Prop := vp_in (M 699 6) 2 ∧ vp_in (0 : Int32) 377 ∧ ((¬ (M (700 + (M 699 6).toNatClampNeg) (0 : Int32).toNatClampNeg) = (10000 : Int32) → ∃ n, f_X13_passMinute_L16 K n (0 : Int32) M) ∧ ((M (700 + (M 699 6).toNatClampNeg) (0 : Int32).toNatClampNeg) = (10000 : Int32) → K (0 : Int32) M))
set_option maxRecDepth 100000 in
set_option maxHeartbeats 4000000 in
theorem c_X13_passMinute {ad : Nat → Nat}  (M : TM) (K : Int32 → TM → Prop) (h : f_X13_passMinute  M K) : MI yX13_passMinute cX13_passMinute 3 (some .int) 6 ad [.ref (ad 699)] M K := by
  refine MI_of RX13 rfl (by decide +kernel) (Nat.le_of_ble_eq_true rfl) (fun p l e s m below meth c D tc E hr => ?_)
  unfold f_X13_passMinute at h
  refine ra_aload_n E dX13_passMinute_0 rfl 0 rfl ?_
  obtain ⟨g1, h⟩ := h
  refine gf_X13_6 E lm13 fl_X13_28 dX13_passMinute_1 ?_
  refine ra_iconst E dX13_passMinute_4 ki_0 ?_
  obtain ⟨g2, h⟩ := h
  refine ra_iald E (lmM (isRow_of g1).lt) (cel_row tc ad (isRow_of g1)) g2 dX13_passMinute_5 ?_
  refine ra_sipush E dX13_passMinute_6 ks_10000 ?_
  refine ra_icmp_ne (tgt := 14) E dX13_passMinute_9 (by decide) (fun q3 => ?_) (fun q3 => ?_)
  · replace h := h.1 q3
    refine ra_iconst E dX13_passMinute_14 ki_0 ?_
    refine ra_istore_n (L' := [(1, _), (0, _)]) E dX13_passMinute_15 rfl (by decide) rfl ?_
    obtain ⟨n32, h⟩ := h
    exact ra_sub (L' := [(0, _), (1, _)]) [1, 0] rfl (l_X13_passMinute_L16 E hr n32 _ _ h)
  · replace h := h.2 q3
    refine ra_iconst E dX13_passMinute_12 ki_0 ?_
    exact ra_iret E hr dX13_passMinute_13 h
def f_X13_pass_L4 (p1 : Int32) (K : Int32 → TM → Prop) : Nat → Int32 → Int32 → Int32 → TM → Prop
  | 0, _, _, _, _ => False
  | n + 1, x1, x2, x3, M => ((x1 ≤ x3 → K x2 M) ∧ (¬ x1 ≤ x3 → f_X13_passMinute M (fun r3 M2 => f_X13_pass_L4 p1 K n x1 (x2 + r3) (x3 + 1) M2)))
set_option maxRecDepth 100000 in
set_option maxHeartbeats 4000000 in
theorem l_X13_pass_L4 {p : Program} {l : Launch} {e : Env} {s : State} {m : MethodId} {args : Array Value} {below : List Frame} {meth : Method} {c : Code} {D : va_G} {tc : Nat → ClassId} {ad : Nat → Nat} (p1 : Int32) {K : Int32 → TM → Prop} (E : Ev p s m args meth c D tc ad RX13 cX13_pass 4) (hr : meth.sig.returnType = (some .int)) : ∀ (n : Nat) (x1 : Int32) (x2 : Int32) (x3 : Int32) (M : TM) , f_X13_pass_L4 p1 K n x1 x2 x3 M → Wa p l e (rmD 7) s m args below meth c 0 0 (MQ below (va_Qi K (EndW D tc ad) (A0 ad s.heap.size)) args s 0 0 (A0 ad s.heap.size)) D tc ad 4 M 4 [(0, .ref (ad 699)), (1, .int x1), (2, .int x2), (3, .int x3)] [] := by
  intro n
  induction n with
  | zero => intro x1 x2 x3 M  h; exact h.elim
  | succ n ih =>
    intro x1 x2 x3 M  h
    unfold f_X13_pass_L4 at h
    refine ra_iload_n E dX13_pass_4 rfl 3 rfl ?_
    refine ra_iload_n E dX13_pass_5 rfl 1 rfl ?_
    refine ra_icmp_ge (tgt := 22) E dX13_pass_6 (by decide) (fun q1 => ?_) (fun q1 => ?_)
    · replace h := h.1 q1
      refine ra_iload_n E dX13_pass_22 rfl 2 rfl ?_
      exact ra_iret E hr dX13_pass_23 h
    · replace h := h.2 q1
      refine ra_iload_n E dX13_pass_9 rfl 2 rfl ?_
      refine ra_aload_n E dX13_pass_10 rfl 0 rfl ?_
      refine ra_callIV (rest := [_]) E (c_X13_passMinute _ _ h) lq_13 cv_X13_passMinute ml_X13_204 (by decide) (lmM (by decide)) (fun R => ⟨_, cel_699 tc ad R⟩) rfl rfl rfl (Nat.le_of_ble_eq_true rfl) ⟨Nat.le_of_ble_eq_true rfl, Nat.le_of_ble_eq_true rfl⟩ ⟨Nat.zero_le _, Nat.zero_le _⟩ dX13_pass_11 (fun r3 M2 h => ?_)
      refine ra_iadd E dX13_pass_14 ?_
      refine ra_istore_n (L' := [(2, _), (0, _), (1, _), (3, _)]) E dX13_pass_15 rfl (by decide) rfl ?_
      refine ra_iinc1 (L' := [(3, _), (2, _), (0, _), (1, _)]) E dX13_pass_16 3 rfl (by decide) rfl ?_
      refine ra_goto (tgt := 4) E dX13_pass_19 (by decide) ?_
      exact ra_sub (L' := [(0, _), (1, _), (2, _), (3, _)]) [2, 3, 1, 0] rfl (ih _ _ _ _ h)
def f_X13_pass (p1 : Int32) (M : TM) (K : Int32 → TM → Prop) : Prop := ∃ n, f_X13_pass_L4 p1 K n p1 (0 : Int32) (0 : Int32) M
set_option maxRecDepth 100000 in
set_option maxHeartbeats 4000000 in
theorem c_X13_pass {ad : Nat → Nat} (p1 : Int32) (M : TM) (K : Int32 → TM → Prop) (h : f_X13_pass p1 M K) : MI yX13_pass cX13_pass 4 (some .int) 7 ad [.ref (ad 699), .int p1] M K := by
  refine MI_of RX13 rfl (by decide +kernel) (Nat.le_of_ble_eq_true rfl) (fun p l e s m below meth c D tc E hr => ?_)
  unfold f_X13_pass at h
  refine ra_iconst E dX13_pass_0 ki_0 ?_
  refine ra_istore_n (L' := [(2, _), (0, _), (1, _)]) E dX13_pass_1 rfl (by decide) rfl ?_
  refine ra_iconst E dX13_pass_2 ki_0 ?_
  refine ra_istore_n (L' := [(3, _), (2, _), (0, _), (1, _)]) E dX13_pass_3 rfl (by decide) rfl ?_
  obtain ⟨n4, h⟩ := h
  exact ra_sub (L' := [(0, _), (1, _), (2, _), (3, _)]) [2, 3, 1, 0] rfl (l_X13_pass_L4 p1 E hr n4 _ _ _ _ h)
def f_X13_isTooHigh_L26 (p1 : Int32) (p2 : Int32) (K : Int32 → TM → Prop) : Nat → Int32 → Int32 → Int32 → TM → Prop
  | 0, _, _, _, _ => False
  | n + 1, x1, x4, x5, M => ((x4 ≤ x5 → K (0 : Int32) M) ∧ (¬ x4 ≤ x5 → vp_in (M 699 6) 2 ∧ vp_in ((25 : Int32) + x5) 377 ∧ (((M (700 + (M 699 6).toNatClampNeg) ((25 : Int32) + x5).toNatClampNeg) ≤ 0 → f_X13_isTooHigh_L26 p1 p2 K n x1 x4 (x5 + 1) M) ∧ (¬ (M (700 + (M 699 6).toNatClampNeg) ((25 : Int32) + x5).toNatClampNeg) ≤ 0 → vp_in (M 699 6) 2 ∧ vp_in ((25 : Int32) + x5) 377 ∧ f_X13_of x1 (2 : Int32) M (fun r16 M15 => ((r16 ≤ (M (700 + (M 699 6).toNatClampNeg) ((25 : Int32) + x5).toNatClampNeg) → f_X13_isTooHigh_L26 p1 p2 K n x1 x4 (x5 + 1) M15) ∧ (¬ r16 ≤ (M (700 + (M 699 6).toNatClampNeg) ((25 : Int32) + x5).toNatClampNeg) → K (1 : Int32) M15)))))))
set_option maxRecDepth 100000 in
set_option maxHeartbeats 4000000 in
theorem l_X13_isTooHigh_L26 {p : Program} {l : Launch} {e : Env} {s : State} {m : MethodId} {args : Array Value} {below : List Frame} {meth : Method} {c : Code} {D : va_G} {tc : Nat → ClassId} {ad : Nat → Nat} (p1 : Int32) (p2 : Int32) {K : Int32 → TM → Prop} (E : Ev p s m args meth c D tc ad RX13 cX13_isTooHigh 6) (hr : meth.sig.returnType = (some .boolean)) : ∀ (n : Nat) (x1 : Int32) (x4 : Int32) (x5 : Int32) (M : TM) , f_X13_isTooHigh_L26 p1 p2 K n x1 x4 x5 M → Wa p l e (rmD 1) s m args below meth c 0 0 (MQ below (va_Qi (fun r M' => (r = 0 ∨ r = 1) ∧ K r M') (EndW D tc ad) (A0 ad s.heap.size)) args s 0 0 (A0 ad s.heap.size)) D tc ad 6 M 26 [(0, .ref (ad 699)), (1, .int x1), (4, .int x4), (5, .int x5)] [] := by
  intro n
  induction n with
  | zero => intro x1 x4 x5 M  h; exact h.elim
  | succ n ih =>
    intro x1 x4 x5 M  h
    unfold f_X13_isTooHigh_L26 at h
    refine ra_iload E dX13_isTooHigh_26 3 rfl ?_
    refine ra_iload E dX13_isTooHigh_28 2 rfl ?_
    refine ra_icmp_ge (tgt := 73) E dX13_isTooHigh_30 (by decide) (fun q9 => ?_) (fun q9 => ?_)
    · replace h := h.1 q9
      refine ra_iconst E dX13_isTooHigh_73 ki_0 ?_
      exact ra_zret E hr rfl dX13_isTooHigh_74 ⟨Or.inl rfl, h⟩
    · replace h := h.2 q9
      refine ra_aload_n E dX13_isTooHigh_33 rfl 0 rfl ?_
      obtain ⟨g10, h⟩ := h
      refine gf_X13_6 E lm13 fl_X13_28 dX13_isTooHigh_34 ?_
      refine ra_bipush E dX13_isTooHigh_37 kb_25 ?_
      refine ra_iload E dX13_isTooHigh_39 3 rfl ?_
      refine ra_iadd E dX13_isTooHigh_41 ?_
      obtain ⟨g11, h⟩ := h
      refine ra_iald E (lmM (isRow_of g10).lt) (cel_row tc ad (isRow_of g10)) g11 dX13_isTooHigh_42 ?_
      refine ra_if_le (tgt := 67) E dX13_isTooHigh_43 (by decide) (fun q12 => ?_) (fun q12 => ?_)
      · replace h := h.1 q12
        refine ra_iinc1 (L' := [(5, _), (0, _), (1, _), (4, _)]) E dX13_isTooHigh_67 3 rfl (by decide) rfl ?_
        refine ra_goto (tgt := 26) E dX13_isTooHigh_70 (by decide) ?_
        exact ra_sub (L' := [(0, _), (1, _), (4, _), (5, _)]) [1, 2, 3, 0] rfl (ih _ _ _ _ h)
      · replace h := h.2 q12
        refine ra_aload_n E dX13_isTooHigh_46 rfl 0 rfl ?_
        obtain ⟨g13, h⟩ := h
        refine gf_X13_6 E lm13 fl_X13_28 dX13_isTooHigh_47 ?_
        refine ra_bipush E dX13_isTooHigh_50 kb_25 ?_
        refine ra_iload E dX13_isTooHigh_52 3 rfl ?_
        refine ra_iadd E dX13_isTooHigh_54 ?_
        obtain ⟨g14, h⟩ := h
        refine ra_iald E (lmM (isRow_of g13).lt) (cel_row tc ad (isRow_of g13)) g14 dX13_isTooHigh_55 ?_
        refine ra_aload_n E dX13_isTooHigh_56 rfl 0 rfl ?_
        refine ra_iload_n E dX13_isTooHigh_57 rfl 1 rfl ?_
        refine ra_iconst E dX13_isTooHigh_58 ki_2 ?_
        refine ra_callIV (rest := [_]) E (c_X13_of _ _ _ _ h) lq_13 cv_X13_of ml_X13_93 (by decide) (lmM (by decide)) (fun R => ⟨_, cel_699 tc ad R⟩) rfl rfl rfl (Nat.le_of_ble_eq_true rfl) ⟨Nat.le_of_ble_eq_true rfl, Nat.le_of_ble_eq_true rfl⟩ ⟨Nat.zero_le _, Nat.zero_le _⟩ dX13_isTooHigh_59 (fun r16 M15 h => ?_)
        refine ra_icmp_ge (tgt := 67) E dX13_isTooHigh_62 (by decide) (fun q17 => ?_) (fun q17 => ?_)
        · replace h := h.1 q17
          refine ra_iinc1 (L' := [(5, _), (0, _), (1, _), (4, _)]) E dX13_isTooHigh_67 3 rfl (by decide) rfl ?_
          refine ra_goto (tgt := 26) E dX13_isTooHigh_70 (by decide) ?_
          exact ra_sub (L' := [(0, _), (1, _), (4, _), (5, _)]) [1, 2, 3, 0] rfl (ih _ _ _ _ h)
        · replace h := h.2 q17
          refine ra_iconst E dX13_isTooHigh_65 ki_1 ?_
          exact ra_zret E hr rfl dX13_isTooHigh_66 ⟨Or.inr rfl, h⟩
def f_X13_isTooHigh (p1 : Int32) (p2 : Int32) (M : TM) (K : Int32 → TM → Prop) : Prop := f_X13_of p1 (0 : Int32) M (fun r2 M1 => f_X13_least r2 p2 M1 (fun r4 M3 => f_X13_of p1 (0 : Int32) M3 (fun r6 M5 => f_X13_most r6 p2 M5 (fun r8 M7 => ∃ n, f_X13_isTooHigh_L26 p1 p2 K n p1 r8 r4 M7))))
set_option maxRecDepth 100000 in
set_option maxHeartbeats 4000000 in
theorem c_X13_isTooHigh {ad : Nat → Nat} (p1 : Int32) (p2 : Int32) (M : TM) (K : Int32 → TM → Prop) (h : f_X13_isTooHigh p1 p2 M K) : MI yX13_isTooHigh cX13_isTooHigh 6 (some .boolean) 1 ad [.ref (ad 699), .int p1, .int p2] M (fun r M' => (r = 0 ∨ r = 1) ∧ K r M') := by
  refine MI_of RX13 rfl (by decide +kernel) (Nat.le_of_ble_eq_true rfl) (fun p l e s m below meth c D tc E hr => ?_)
  unfold f_X13_isTooHigh at h
  refine ra_aload_n E dX13_isTooHigh_0 rfl 0 rfl ?_
  refine ra_iload_n E dX13_isTooHigh_1 rfl 1 rfl ?_
  refine ra_iconst E dX13_isTooHigh_2 ki_0 ?_
  refine ra_callIV (rest := []) E (c_X13_of _ _ _ _ h) lq_13 cv_X13_of ml_X13_93 (by decide) (lmM (by decide)) (fun R => ⟨_, cel_699 tc ad R⟩) rfl rfl rfl (Nat.le_of_ble_eq_true rfl) ⟨Nat.le_of_ble_eq_true rfl, Nat.le_of_ble_eq_true rfl⟩ ⟨Nat.zero_le _, Nat.zero_le _⟩ dX13_isTooHigh_3 (fun r2 M1 h => ?_)
  refine ra_iload_n E dX13_isTooHigh_6 rfl 2 rfl ?_
  refine ra_callIS (rest := []) E (c_X13_least _ _ _ _ h) lq_13 ct_X13_least ml_X13_208 (by decide) rfl rfl (Nat.le_of_ble_eq_true rfl) ⟨Nat.le_of_ble_eq_true rfl, Nat.le_of_ble_eq_true rfl⟩ ⟨Nat.zero_le _, Nat.zero_le _⟩ dX13_isTooHigh_7 (fun r4 M3 h => ?_)
  refine ra_istore_n (L' := [(3, _), (0, _), (1, _), (2, _)]) E dX13_isTooHigh_10 rfl (by decide) rfl ?_
  refine ra_aload_n E dX13_isTooHigh_11 rfl 1 rfl ?_
  refine ra_iload_n E dX13_isTooHigh_12 rfl 2 rfl ?_
  refine ra_iconst E dX13_isTooHigh_13 ki_0 ?_
  refine ra_callIV (rest := []) E (c_X13_of _ _ _ _ h) lq_13 cv_X13_of ml_X13_93 (by decide) (lmM (by decide)) (fun R => ⟨_, cel_699 tc ad R⟩) rfl rfl rfl (Nat.le_of_ble_eq_true rfl) ⟨Nat.le_of_ble_eq_true rfl, Nat.le_of_ble_eq_true rfl⟩ ⟨Nat.zero_le _, Nat.zero_le _⟩ dX13_isTooHigh_14 (fun r6 M5 h => ?_)
  refine ra_iload_n E dX13_isTooHigh_17 rfl 3 rfl ?_
  refine ra_callIS (rest := []) E (c_X13_most _ _ _ _ h) lq_13 ct_X13_most ml_X13_211 (by decide) rfl rfl (Nat.le_of_ble_eq_true rfl) ⟨Nat.le_of_ble_eq_true rfl, Nat.le_of_ble_eq_true rfl⟩ ⟨Nat.zero_le _, Nat.zero_le _⟩ dX13_isTooHigh_18 (fun r8 M7 h => ?_)
  refine ra_istore (L' := [(4, _), (3, _), (0, _), (1, _), (2, _)]) E dX13_isTooHigh_21 (by decide) rfl ?_
  refine ra_iload_n E dX13_isTooHigh_23 rfl 1 rfl ?_
  refine ra_istore (L' := [(5, _), (4, _), (3, _), (0, _), (1, _), (2, _)]) E dX13_isTooHigh_24 (by decide) rfl ?_
  obtain ⟨n18, h⟩ := h
  exact ra_sub (L' := [(0, _), (1, _), (4, _), (5, _)]) [3, 4, 1, 0] rfl (l_X13_isTooHigh_L26 p1 p2 E hr n18 _ _ _ _ h)
