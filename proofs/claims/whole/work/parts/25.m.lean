def f_X13_doOrder (p1 : Int32) (p2 : Int32) (p3 : Int32) (p4 : Int32) (M : TM) (K : Int32 → TM → Prop) : Prop := f_X13_isPlace p1 M (fun r2 M1 => ((¬ r2 = 0 → vp_in (M1 699 6) 2 ∧ vp_in (3 : Int32) 377 ∧ ((¬ (M1 (700 + (M1 699 6).toNatClampNeg) (3 : Int32).toNatClampNeg) = (30 : Int32) → f_X13_addOrder p1 p2 p3 p4 M1 (fun M8 => vp_in (M8 699 6) 2 ∧ vp_in (3 : Int32) 377 ∧ ∀ M11, M11 = u2 M8 699 10 ((M8 (700 + (M8 699 6).toNatClampNeg) (3 : Int32).toNatClampNeg) - (1 : Int32)) → K (0 : Int32) M11)) ∧ ((M1 (700 + (M1 699 6).toNatClampNeg) (3 : Int32).toNatClampNeg) = (30 : Int32) → K (3 : Int32) M1))) ∧ (r2 = 0 → K (1 : Int32) M1)))
set_option maxRecDepth 100000 in
set_option maxHeartbeats 4000000 in
theorem c_X13_doOrder {ad : Nat → Nat} (p1 : Int32) (p2 : Int32) (p3 : Int32) (p4 : Int32) (M : TM) (K : Int32 → TM → Prop) (h : f_X13_doOrder p1 p2 p3 p4 M K) : MI yX13_doOrder cX13_doOrder 5 (some .int) 2 ad [.ref (ad 699), .int p1, .int p2, .int p3, .int p4] M K := by
  refine MI_of RX13 rfl (by decide +kernel) (Nat.le_of_ble_eq_true rfl) (fun p l e s m below meth c D tc E hr => ?_)
  unfold f_X13_doOrder at h
  refine ra_aload_n E dX13_doOrder_0 rfl 0 rfl ?_
  refine ra_iload_n E dX13_doOrder_1 rfl 1 rfl ?_
  refine ra_callIV (rest := []) E (c_X13_isPlace _ _ _ h) lq_13 cv_X13_isPlace ml_X13_131 (by decide) (lmM (by decide)) (fun R => ⟨_, cel_699 tc ad R⟩) rfl rfl rfl (Nat.le_of_ble_eq_true rfl) ⟨Nat.le_of_ble_eq_true rfl, Nat.le_of_ble_eq_true rfl⟩ ⟨Nat.zero_le _, Nat.zero_le _⟩ dX13_doOrder_2 (fun r2 M1 h => ?_)
  obtain ⟨b3, h⟩ := h
  refine ra_if_ne (tgt := 10) E dX13_doOrder_5 (by decide) (fun q4 => ?_) (fun q4 => ?_)
  · replace h := h.1 q4
    refine ra_aload_n E dX13_doOrder_10 rfl 0 rfl ?_
    obtain ⟨g5, h⟩ := h
    refine gf_X13_6 E lm13 fl_X13_28 dX13_doOrder_11 ?_
    refine ra_iconst E dX13_doOrder_14 ki_3 ?_
    obtain ⟨g6, h⟩ := h
    refine ra_iald E (lmM (isRow_of g5).lt) (cel_row tc ad (isRow_of g5)) g6 dX13_doOrder_15 ?_
    refine ra_bipush E dX13_doOrder_16 kb_30 ?_
    refine ra_icmp_ne (tgt := 23) E dX13_doOrder_18 (by decide) (fun q7 => ?_) (fun q7 => ?_)
    · replace h := h.1 q7
      refine ra_aload_n E dX13_doOrder_23 rfl 0 rfl ?_
      refine ra_iload_n E dX13_doOrder_24 rfl 1 rfl ?_
      refine ra_iload_n E dX13_doOrder_25 rfl 2 rfl ?_
      refine ra_iload_n E dX13_doOrder_26 rfl 3 rfl ?_
      refine ra_iload E dX13_doOrder_27 4 rfl ?_
      refine ra_callVV (rest := []) E (c_X13_addOrder _ _ _ _ _ _ h) lq_13 cv_X13_addOrder ml_X13_76 (by decide) (lmM (by decide)) (fun R => ⟨_, cel_699 tc ad R⟩) rfl rfl rfl (Nat.le_of_ble_eq_true rfl) ⟨Nat.le_of_ble_eq_true rfl, Nat.le_of_ble_eq_true rfl⟩ ⟨Nat.zero_le _, Nat.zero_le _⟩ dX13_doOrder_29 (fun M8 h => ?_)
      refine ra_aload_n E dX13_doOrder_32 rfl 0 rfl ?_
      refine ra_aload_n E dX13_doOrder_33 rfl 0 rfl ?_
      obtain ⟨g9, h⟩ := h
      refine gf_X13_6 E lm13 fl_X13_28 dX13_doOrder_34 ?_
      refine ra_iconst E dX13_doOrder_37 ki_3 ?_
      obtain ⟨g10, h⟩ := h
      refine ra_iald E (lmM (isRow_of g9).lt) (cel_row tc ad (isRow_of g9)) g10 dX13_doOrder_38 ?_
      refine ra_iconst E dX13_doOrder_39 ki_1 ?_
      refine ra_isub E dX13_doOrder_40 ?_
      refine pf_X13_10 E lm13 fl_X13_245 dX13_doOrder_41 ?_
      replace h := h _ rfl
      refine ra_iconst E dX13_doOrder_44 ki_0 ?_
      exact ra_iret E hr dX13_doOrder_45 h
    · replace h := h.2 q7
      refine ra_iconst E dX13_doOrder_21 ki_3 ?_
      exact ra_iret E hr dX13_doOrder_22 h
  · replace h := h.2 q4
    refine ra_iconst E dX13_doOrder_8 ki_1 ?_
    exact ra_iret E hr dX13_doOrder_9 h
def f_X13_makeOrder_L36 (p1 : Int32) (p2 : Int32) (p3 : Int32) (p4 : Int32) (K : Int32 → TM → Prop) (x1 : Int32) (x2 : Int32) (x3 : Int32) (x4 : Int32) (z0 : Int32) (M : TM) : Prop := f_X13_isPlace x1 M (fun r6 M5 => f_X13_lacksBoth r6 z0 M5 (fun r9 M8 => ((r9 = 0 → f_X13_keep M8 (fun M12 => f_X13_doOrder x1 x2 x3 x4 M12 (fun r14 M13 => f_X13_ends r14 M13 (fun r16 M15 => K r16 M15)))) ∧ (¬ r9 = 0 → K (0 : Int32) M8))))
set_option maxRecDepth 100000 in
set_option maxHeartbeats 4000000 in
theorem l_X13_makeOrder_L36 {p : Program} {l : Launch} {e : Env} {s : State} {m : MethodId} {args : Array Value} {below : List Frame} {meth : Method} {c : Code} {D : va_G} {tc : Nat → ClassId} {ad : Nat → Nat} (p1 : Int32) (p2 : Int32) (p3 : Int32) (p4 : Int32) {K : Int32 → TM → Prop} (E : Ev p s m args meth c D tc ad RX13 cX13_makeOrder 6) (hr : meth.sig.returnType = (some .int)) : ∀ (x1 : Int32) (x2 : Int32) (x3 : Int32) (x4 : Int32) (z0 : Int32) (M : TM) , f_X13_makeOrder_L36 p1 p2 p3 p4 K x1 x2 x3 x4 z0 M → Wa p l e (rmD 4) s m args below meth c 0 0 (MQ below (va_Qi K (EndW D tc ad) (A0 ad s.heap.size)) args s 0 0 (A0 ad s.heap.size)) D tc ad 6 M 36 [(0, .ref (ad 699)), (1, .int x1), (2, .int x2), (3, .int x3), (4, .int x4)] [.int z0] := by
  intro x1 x2 x3 x4 z0 M  h
  unfold f_X13_makeOrder_L36 at h
  refine ra_istore (L' := [(5, _), (0, _), (1, _), (2, _), (3, _), (4, _)]) E dX13_makeOrder_36 (by decide) rfl ?_
  refine ra_aload_n E dX13_makeOrder_38 rfl 1 rfl ?_
  refine ra_aload_n E dX13_makeOrder_39 rfl 1 rfl ?_
  refine ra_iload_n E dX13_makeOrder_40 rfl 2 rfl ?_
  refine ra_callIV (rest := [_]) E (c_X13_isPlace _ _ _ h) lq_13 cv_X13_isPlace ml_X13_131 (by decide) (lmM (by decide)) (fun R => ⟨_, cel_699 tc ad R⟩) rfl rfl rfl (Nat.le_of_ble_eq_true rfl) ⟨Nat.le_of_ble_eq_true rfl, Nat.le_of_ble_eq_true rfl⟩ ⟨Nat.zero_le _, Nat.zero_le _⟩ dX13_makeOrder_41 (fun r6 M5 h => ?_)
  obtain ⟨b7, h⟩ := h
  refine ra_iload E dX13_makeOrder_44 0 rfl ?_
  refine ra_callIV (rest := []) E (c_X13_lacksBoth _ _ _ _ h) lq_13 cv_X13_lacksBoth ml_X13_263 (by decide) (lmM (by decide)) (fun R => ⟨_, cel_699 tc ad R⟩) rfl rfl rfl (Nat.le_of_ble_eq_true rfl) ⟨Nat.le_of_ble_eq_true rfl, Nat.le_of_ble_eq_true rfl⟩ ⟨Nat.zero_le _, Nat.zero_le _⟩ dX13_makeOrder_46 (fun r9 M8 h => ?_)
  obtain ⟨b10, h⟩ := h
  refine ra_if_eq (tgt := 54) E dX13_makeOrder_49 (by decide) (fun q11 => ?_) (fun q11 => ?_)
  · replace h := h.1 q11
    refine ra_aload_n E dX13_makeOrder_54 rfl 1 rfl ?_
    refine ra_callVV (rest := []) E (c_X13_keep _ _ h) lq_13 cv_X13_keep ml_X13_254 (by decide) (lmM (by decide)) (fun R => ⟨_, cel_699 tc ad R⟩) rfl rfl rfl (Nat.le_of_ble_eq_true rfl) ⟨Nat.le_of_ble_eq_true rfl, Nat.le_of_ble_eq_true rfl⟩ ⟨Nat.zero_le _, Nat.zero_le _⟩ dX13_makeOrder_55 (fun M12 h => ?_)
    refine ra_aload_n E dX13_makeOrder_58 rfl 1 rfl ?_
    refine ra_aload_n E dX13_makeOrder_59 rfl 1 rfl ?_
    refine ra_iload_n E dX13_makeOrder_60 rfl 2 rfl ?_
    refine ra_iload_n E dX13_makeOrder_61 rfl 3 rfl ?_
    refine ra_iload_n E dX13_makeOrder_62 rfl 4 rfl ?_
    refine ra_iload E dX13_makeOrder_63 5 rfl ?_
    refine ra_callIV (rest := [_]) E (c_X13_doOrder _ _ _ _ _ _ h) lq_13 cv_X13_doOrder ml_X13_267 (by decide) (lmM (by decide)) (fun R => ⟨_, cel_699 tc ad R⟩) rfl rfl rfl (Nat.le_of_ble_eq_true rfl) ⟨Nat.le_of_ble_eq_true rfl, Nat.le_of_ble_eq_true rfl⟩ ⟨Nat.zero_le _, Nat.zero_le _⟩ dX13_makeOrder_65 (fun r14 M13 h => ?_)
    refine ra_callIV (rest := []) E (c_X13_ends _ _ _ h) lq_13 cv_X13_ends ml_X13_260 (by decide) (lmM (by decide)) (fun R => ⟨_, cel_699 tc ad R⟩) rfl rfl rfl (Nat.le_of_ble_eq_true rfl) ⟨Nat.le_of_ble_eq_true rfl, Nat.le_of_ble_eq_true rfl⟩ ⟨Nat.zero_le _, Nat.zero_le _⟩ dX13_makeOrder_68 (fun r16 M15 h => ?_)
    exact ra_iret E hr dX13_makeOrder_71 h
  · replace h := h.2 q11
    refine ra_iconst E dX13_makeOrder_52 ki_0 ?_
    exact ra_iret E hr dX13_makeOrder_53 h
def f_X13_makeOrder_L35 (p1 : Int32) (p2 : Int32) (p3 : Int32) (p4 : Int32) (K : Int32 → TM → Prop) (x1 : Int32) (x2 : Int32) (x3 : Int32) (x4 : Int32) (M : TM) : Prop := f_X13_makeOrder_L36 p1 p2 p3 p4 K x1 x2 x3 x4 (0 : Int32) M
set_option maxRecDepth 100000 in
set_option maxHeartbeats 4000000 in
theorem l_X13_makeOrder_L35 {p : Program} {l : Launch} {e : Env} {s : State} {m : MethodId} {args : Array Value} {below : List Frame} {meth : Method} {c : Code} {D : va_G} {tc : Nat → ClassId} {ad : Nat → Nat} (p1 : Int32) (p2 : Int32) (p3 : Int32) (p4 : Int32) {K : Int32 → TM → Prop} (E : Ev p s m args meth c D tc ad RX13 cX13_makeOrder 6) (hr : meth.sig.returnType = (some .int)) : ∀ (x1 : Int32) (x2 : Int32) (x3 : Int32) (x4 : Int32) (M : TM) , f_X13_makeOrder_L35 p1 p2 p3 p4 K x1 x2 x3 x4 M → Wa p l e (rmD 4) s m args below meth c 0 0 (MQ below (va_Qi K (EndW D tc ad) (A0 ad s.heap.size)) args s 0 0 (A0 ad s.heap.size)) D tc ad 6 M 35 [(0, .ref (ad 699)), (1, .int x1), (2, .int x2), (3, .int x3), (4, .int x4)] [] := by
  intro x1 x2 x3 x4 M  h
  unfold f_X13_makeOrder_L35 at h
  refine ra_iconst E dX13_makeOrder_35 ki_0 ?_
  exact ra_sub (L' := [(0, _), (1, _), (2, _), (3, _), (4, _)]) [0, 1, 2, 3, 4] rfl (l_X13_makeOrder_L36 p1 p2 p3 p4 E hr _ _ _ _ _ _ h)
def f_X13_makeOrder (p1 : Int32) (p2 : Int32) (p3 : Int32) (p4 : Int32) (M : TM) (K : Int32 → TM → Prop) : Prop := f_X13_inRange p2 (1 : Int32) (4 : Int32) M (fun r2 M1 => ((r2 = 0 → f_X13_makeOrder_L35 p1 p2 p3 p4 K p1 p2 p3 p4 M1) ∧ (¬ r2 = 0 → f_X13_inRange p3 (1 : Int32) (6 : Int32) M1 (fun r18 M17 => ((r18 = 0 → f_X13_makeOrder_L35 p1 p2 p3 p4 K p1 p2 p3 p4 M17) ∧ (¬ r18 = 0 → f_X13_inRange p4 (1 : Int32) (500 : Int32) M17 (fun r22 M21 => ((r22 = 0 → f_X13_makeOrder_L35 p1 p2 p3 p4 K p1 p2 p3 p4 M21) ∧ (¬ r22 = 0 → f_X13_makeOrder_L36 p1 p2 p3 p4 K p1 p2 p3 p4 (1 : Int32) M21)))))))))
set_option maxRecDepth 100000 in
set_option maxHeartbeats 4000000 in
theorem c_X13_makeOrder {ad : Nat → Nat} (p1 : Int32) (p2 : Int32) (p3 : Int32) (p4 : Int32) (M : TM) (K : Int32 → TM → Prop) (h : f_X13_makeOrder p1 p2 p3 p4 M K) : MI yX13_makeOrder cX13_makeOrder 6 (some .int) 4 ad [.ref (ad 699), .int p1, .int p2, .int p3, .int p4] M K := by
  refine MI_of RX13 rfl (by decide +kernel) (Nat.le_of_ble_eq_true rfl) (fun p l e s m below meth c D tc E hr => ?_)
  unfold f_X13_makeOrder at h
  refine ra_iload_n E dX13_makeOrder_0 rfl 2 rfl ?_
  refine ra_iconst E dX13_makeOrder_1 ki_1 ?_
  refine ra_iconst E dX13_makeOrder_2 ki_4 ?_
  refine ra_callIS (rest := []) E (c_X13_inRange _ _ _ _ _ h) lq_13 ct_X13_inRange ml_X13_97 (by decide) rfl rfl (Nat.le_of_ble_eq_true rfl) ⟨Nat.le_of_ble_eq_true rfl, Nat.le_of_ble_eq_true rfl⟩ ⟨Nat.zero_le _, Nat.zero_le _⟩ dX13_makeOrder_3 (fun r2 M1 h => ?_)
  obtain ⟨b3, h⟩ := h
  refine ra_if_eq (tgt := 35) E dX13_makeOrder_6 (by decide) (fun q4 => ?_) (fun q4 => ?_)
  · replace h := h.1 q4
    exact ra_sub (L' := [(0, _), (1, _), (2, _), (3, _), (4, _)]) [0, 1, 2, 3, 4] rfl (l_X13_makeOrder_L35 p1 p2 p3 p4 E hr _ _ _ _ _ h)
  · replace h := h.2 q4
    refine ra_iload_n E dX13_makeOrder_9 rfl 3 rfl ?_
    refine ra_iconst E dX13_makeOrder_10 ki_1 ?_
    refine ra_bipush E dX13_makeOrder_11 kb_6 ?_
    refine ra_callIS (rest := []) E (c_X13_inRange _ _ _ _ _ h) lq_13 ct_X13_inRange ml_X13_97 (by decide) rfl rfl (Nat.le_of_ble_eq_true rfl) ⟨Nat.le_of_ble_eq_true rfl, Nat.le_of_ble_eq_true rfl⟩ ⟨Nat.zero_le _, Nat.zero_le _⟩ dX13_makeOrder_13 (fun r18 M17 h => ?_)
    obtain ⟨b19, h⟩ := h
    refine ra_if_eq (tgt := 35) E dX13_makeOrder_16 (by decide) (fun q20 => ?_) (fun q20 => ?_)
    · replace h := h.1 q20
      exact ra_sub (L' := [(0, _), (1, _), (2, _), (3, _), (4, _)]) [0, 1, 2, 3, 4] rfl (l_X13_makeOrder_L35 p1 p2 p3 p4 E hr _ _ _ _ _ h)
    · replace h := h.2 q20
      refine ra_iload E dX13_makeOrder_19 4 rfl ?_
      refine ra_iconst E dX13_makeOrder_21 ki_1 ?_
      refine ra_sipush E dX13_makeOrder_22 ks_500 ?_
      refine ra_callIS (rest := []) E (c_X13_inRange _ _ _ _ _ h) lq_13 ct_X13_inRange ml_X13_97 (by decide) rfl rfl (Nat.le_of_ble_eq_true rfl) ⟨Nat.le_of_ble_eq_true rfl, Nat.le_of_ble_eq_true rfl⟩ ⟨Nat.zero_le _, Nat.zero_le _⟩ dX13_makeOrder_25 (fun r22 M21 h => ?_)
      obtain ⟨b23, h⟩ := h
      refine ra_if_eq (tgt := 35) E dX13_makeOrder_28 (by decide) (fun q24 => ?_) (fun q24 => ?_)
      · replace h := h.1 q24
        exact ra_sub (L' := [(0, _), (1, _), (2, _), (3, _), (4, _)]) [0, 1, 2, 3, 4] rfl (l_X13_makeOrder_L35 p1 p2 p3 p4 E hr _ _ _ _ _ h)
      · replace h := h.2 q24
        refine ra_iconst E dX13_makeOrder_31 ki_1 ?_
        refine ra_goto (tgt := 36) E dX13_makeOrder_32 (by decide) ?_
        exact ra_sub (L' := [(0, _), (1, _), (2, _), (3, _), (4, _)]) [0, 1, 2, 3, 4] rfl (l_X13_makeOrder_L36 p1 p2 p3 p4 E hr _ _ _ _ _ _ h)
def f_X13_does (p1 : Int32) (M : TM) (K : Int32 → TM → Prop) : Prop := vp_in (p1 + (1 : Int32)) 100 ∧ vp_in (p1 + (2 : Int32)) 100 ∧ vp_in p1 100 ∧ (((M 708 p1.toNatClampNeg) = 0 → f_X13_doSail (M 708 (p1 + (1 : Int32)).toNatClampNeg) (M 708 (p1 + (2 : Int32)).toNatClampNeg) M (fun r6 M5 => K r6 M5)) ∧ ((M 708 p1.toNatClampNeg) = 1 → vp_in (p1 + (3 : Int32)) 100 ∧ vp_in (p1 + (4 : Int32)) 100 ∧ f_X13_doOrder (M 708 (p1 + (1 : Int32)).toNatClampNeg) (M 708 (p1 + (2 : Int32)).toNatClampNeg) (M 708 (p1 + (3 : Int32)).toNatClampNeg) (M 708 (p1 + (4 : Int32)).toNatClampNeg) M (fun r10 M9 => K r10 M9)) ∧ ((M 708 p1.toNatClampNeg) = 2 → f_X13_doTake (M 708 (p1 + (1 : Int32)).toNatClampNeg) (M 708 (p1 + (2 : Int32)).toNatClampNeg) M (fun r12 M11 => K r12 M11)) ∧ ((M 708 p1.toNatClampNeg) = 3 → f_X13_doDrop (M 708 (p1 + (1 : Int32)).toNatClampNeg) M (fun r14 M13 => K r14 M13)) ∧ ((M 708 p1.toNatClampNeg) = 4 → f_X13_doFlour (M 708 (p1 + (1 : Int32)).toNatClampNeg) (M 708 (p1 + (2 : Int32)).toNatClampNeg) M (fun r16 M15 => K r16 M15)) ∧ ((M 708 p1.toNatClampNeg) = 5 → f_X13_doCollect (M 708 (p1 + (1 : Int32)).toNatClampNeg) M (fun r18 M17 => K r18 M17)) ∧ ((M 708 p1.toNatClampNeg) = 6 → f_X13_doWash (M 708 (p1 + (1 : Int32)).toNatClampNeg) M (fun r20 M19 => K r20 M19)) ∧ (¬ (M 708 p1.toNatClampNeg) = 0 → ¬ (M 708 p1.toNatClampNeg) = 1 → ¬ (M 708 p1.toNatClampNeg) = 2 → ¬ (M 708 p1.toNatClampNeg) = 3 → ¬ (M 708 p1.toNatClampNeg) = 4 → ¬ (M 708 p1.toNatClampNeg) = 5 → ¬ (M 708 p1.toNatClampNeg) = 6 → f_X13_doWait (M 708 (p1 + (1 : Int32)).toNatClampNeg) M (fun r22 M21 => K r22 M21)))
set_option maxRecDepth 100000 in
set_option maxHeartbeats 4000000 in
theorem c_X13_does {ad : Nat → Nat} (p1 : Int32) (M : TM) (K : Int32 → TM → Prop) (h : f_X13_does p1 M K) : MI yX13_does cX13_does 4 (some .int) 9 ad [.ref (ad 699), .int p1] M K := by
  refine MI_of RX13 rfl (by decide +kernel) (Nat.le_of_ble_eq_true rfl) (fun p l e s m below meth c D tc E hr => ?_)
  unfold f_X13_does at h
  refine ra_aload_n E dX13_does_0 rfl 0 rfl ?_
  refine gf_X13_24 E lm13 fl_X13_41 dX13_does_1 ?_
  refine ra_iload_n E dX13_does_4 rfl 1 rfl ?_
  refine ra_iconst E dX13_does_5 ki_1 ?_
  refine ra_iadd E dX13_does_6 ?_
  obtain ⟨g1, h⟩ := h
  refine ra_iald E (lmM (by decide)) (cel_708 tc ad) g1 dX13_does_7 ?_
  refine ra_istore_n (L' := [(2, _), (0, _), (1, _)]) E dX13_does_8 rfl (by decide) rfl ?_
  refine ra_aload_n E dX13_does_9 rfl 1 rfl ?_
  refine gf_X13_24 E lm13 fl_X13_41 dX13_does_10 ?_
  refine ra_iload_n E dX13_does_13 rfl 2 rfl ?_
  refine ra_iconst E dX13_does_14 ki_2 ?_
  refine ra_iadd E dX13_does_15 ?_
  obtain ⟨g2, h⟩ := h
  refine ra_iald E (lmM (by decide)) (cel_708 tc ad) g2 dX13_does_16 ?_
  refine ra_istore_n (L' := [(3, _), (2, _), (0, _), (1, _)]) E dX13_does_17 rfl (by decide) rfl ?_
  refine ra_aload_n E dX13_does_18 rfl 2 rfl ?_
  refine gf_X13_24 E lm13 fl_X13_41 dX13_does_19 ?_
  refine ra_iload_n E dX13_does_22 rfl 3 rfl ?_
  obtain ⟨g3, h⟩ := h
  refine ra_iald E (lmM (by decide)) (cel_708 tc ad) g3 dX13_does_23 ?_
  by_cases q4_0 : (M 708 p1.toNatClampNeg) = 0
  · replace h := h.1 q4_0
    refine ra_tableIn (tgt := 68) (off := 44) E dX13_does_24 (by rw [q4_0]; decide) (by rw [q4_0]; decide) (by rw [q4_0]; decide) (by decide) ?_
    refine ra_aload_n E dX13_does_68 rfl 2 rfl ?_
    refine ra_iload_n E dX13_does_69 rfl 1 rfl ?_
    refine ra_iload_n E dX13_does_70 rfl 0 rfl ?_
    refine ra_callIV (rest := []) E (c_X13_doSail _ _ _ _ h) lq_13 cv_X13_doSail ml_X13_257 (by decide) (lmM (by decide)) (fun R => ⟨_, cel_699 tc ad R⟩) rfl rfl rfl (Nat.le_of_ble_eq_true rfl) ⟨Nat.le_of_ble_eq_true rfl, Nat.le_of_ble_eq_true rfl⟩ ⟨Nat.zero_le _, Nat.zero_le _⟩ dX13_does_71 (fun r24 M23 h => ?_)
    exact ra_iret E hr dX13_does_74 h
  by_cases q4_1 : (M 708 p1.toNatClampNeg) = 1
  · replace h := h.2.1 q4_1
    refine ra_tableIn (tgt := 75) (off := 51) E dX13_does_24 (by rw [q4_1]; decide) (by rw [q4_1]; decide) (by rw [q4_1]; decide) (by decide) ?_
    refine ra_aload_n E dX13_does_75 rfl 2 rfl ?_
    refine ra_iload_n E dX13_does_76 rfl 1 rfl ?_
    refine ra_iload_n E dX13_does_77 rfl 0 rfl ?_
    refine ra_aload_n E dX13_does_78 rfl 2 rfl ?_
    refine gf_X13_24 E lm13 fl_X13_41 dX13_does_79 ?_
    refine ra_iload_n E dX13_does_82 rfl 3 rfl ?_
    refine ra_iconst E dX13_does_83 ki_3 ?_
    refine ra_iadd E dX13_does_84 ?_
    obtain ⟨g25, h⟩ := h
    refine ra_iald E (lmM (by decide)) (cel_708 tc ad) g25 dX13_does_85 ?_
    refine ra_aload_n E dX13_does_86 rfl 2 rfl ?_
    refine gf_X13_24 E lm13 fl_X13_41 dX13_does_87 ?_
    refine ra_iload_n E dX13_does_90 rfl 3 rfl ?_
    refine ra_iconst E dX13_does_91 ki_4 ?_
    refine ra_iadd E dX13_does_92 ?_
    obtain ⟨g26, h⟩ := h
    refine ra_iald E (lmM (by decide)) (cel_708 tc ad) g26 dX13_does_93 ?_
    refine ra_callIV (rest := []) E (c_X13_doOrder _ _ _ _ _ _ h) lq_13 cv_X13_doOrder ml_X13_267 (by decide) (lmM (by decide)) (fun R => ⟨_, cel_699 tc ad R⟩) rfl rfl rfl (Nat.le_of_ble_eq_true rfl) ⟨Nat.le_of_ble_eq_true rfl, Nat.le_of_ble_eq_true rfl⟩ ⟨Nat.zero_le _, Nat.zero_le _⟩ dX13_does_94 (fun r28 M27 h => ?_)
    exact ra_iret E hr dX13_does_97 h
  by_cases q4_2 : (M 708 p1.toNatClampNeg) = 2
  · replace h := h.2.2.1 q4_2
    refine ra_tableIn (tgt := 98) (off := 74) E dX13_does_24 (by rw [q4_2]; decide) (by rw [q4_2]; decide) (by rw [q4_2]; decide) (by decide) ?_
    refine ra_aload_n E dX13_does_98 rfl 2 rfl ?_
    refine ra_iload_n E dX13_does_99 rfl 1 rfl ?_
    refine ra_iload_n E dX13_does_100 rfl 0 rfl ?_
    refine ra_callIV (rest := []) E (c_X13_doTake _ _ _ _ h) lq_13 cv_X13_doTake ml_X13_271 (by decide) (lmM (by decide)) (fun R => ⟨_, cel_699 tc ad R⟩) rfl rfl rfl (Nat.le_of_ble_eq_true rfl) ⟨Nat.le_of_ble_eq_true rfl, Nat.le_of_ble_eq_true rfl⟩ ⟨Nat.zero_le _, Nat.zero_le _⟩ dX13_does_101 (fun r30 M29 h => ?_)
    exact ra_iret E hr dX13_does_104 h
  by_cases q4_3 : (M 708 p1.toNatClampNeg) = 3
  · replace h := h.2.2.2.1 q4_3
    refine ra_tableIn (tgt := 105) (off := 81) E dX13_does_24 (by rw [q4_3]; decide) (by rw [q4_3]; decide) (by rw [q4_3]; decide) (by decide) ?_
    refine ra_aload_n E dX13_does_105 rfl 2 rfl ?_
    refine ra_iload_n E dX13_does_106 rfl 1 rfl ?_
    refine ra_callIV (rest := []) E (c_X13_doDrop _ _ _ h) lq_13 cv_X13_doDrop ml_X13_274 (by decide) (lmM (by decide)) (fun R => ⟨_, cel_699 tc ad R⟩) rfl rfl rfl (Nat.le_of_ble_eq_true rfl) ⟨Nat.le_of_ble_eq_true rfl, Nat.le_of_ble_eq_true rfl⟩ ⟨Nat.zero_le _, Nat.zero_le _⟩ dX13_does_107 (fun r32 M31 h => ?_)
    exact ra_iret E hr dX13_does_110 h
  by_cases q4_4 : (M 708 p1.toNatClampNeg) = 4
  · replace h := h.2.2.2.2.1 q4_4
    refine ra_tableIn (tgt := 111) (off := 87) E dX13_does_24 (by rw [q4_4]; decide) (by rw [q4_4]; decide) (by rw [q4_4]; decide) (by decide) ?_
    refine ra_aload_n E dX13_does_111 rfl 2 rfl ?_
    refine ra_iload_n E dX13_does_112 rfl 1 rfl ?_
    refine ra_iload_n E dX13_does_113 rfl 0 rfl ?_
    refine ra_callIV (rest := []) E (c_X13_doFlour _ _ _ _ h) lq_13 cv_X13_doFlour ml_X13_277 (by decide) (lmM (by decide)) (fun R => ⟨_, cel_699 tc ad R⟩) rfl rfl rfl (Nat.le_of_ble_eq_true rfl) ⟨Nat.le_of_ble_eq_true rfl, Nat.le_of_ble_eq_true rfl⟩ ⟨Nat.zero_le _, Nat.zero_le _⟩ dX13_does_114 (fun r34 M33 h => ?_)
    exact ra_iret E hr dX13_does_117 h
  by_cases q4_5 : (M 708 p1.toNatClampNeg) = 5
  · replace h := h.2.2.2.2.2.1 q4_5
    refine ra_tableIn (tgt := 118) (off := 94) E dX13_does_24 (by rw [q4_5]; decide) (by rw [q4_5]; decide) (by rw [q4_5]; decide) (by decide) ?_
    refine ra_aload_n E dX13_does_118 rfl 2 rfl ?_
    refine ra_iload_n E dX13_does_119 rfl 1 rfl ?_
    refine ra_callIV (rest := []) E (c_X13_doCollect _ _ _ h) lq_13 cv_X13_doCollect ml_X13_280 (by decide) (lmM (by decide)) (fun R => ⟨_, cel_699 tc ad R⟩) rfl rfl rfl (Nat.le_of_ble_eq_true rfl) ⟨Nat.le_of_ble_eq_true rfl, Nat.le_of_ble_eq_true rfl⟩ ⟨Nat.zero_le _, Nat.zero_le _⟩ dX13_does_120 (fun r36 M35 h => ?_)
    exact ra_iret E hr dX13_does_123 h
  by_cases q4_6 : (M 708 p1.toNatClampNeg) = 6
  · replace h := h.2.2.2.2.2.2.1 q4_6
    refine ra_tableIn (tgt := 124) (off := 100) E dX13_does_24 (by rw [q4_6]; decide) (by rw [q4_6]; decide) (by rw [q4_6]; decide) (by decide) ?_
    refine ra_aload_n E dX13_does_124 rfl 2 rfl ?_
    refine ra_iload_n E dX13_does_125 rfl 1 rfl ?_
    refine ra_callIV (rest := []) E (c_X13_doWash _ _ _ h) lq_13 cv_X13_doWash ml_X13_283 (by decide) (lmM (by decide)) (fun R => ⟨_, cel_699 tc ad R⟩) rfl rfl rfl (Nat.le_of_ble_eq_true rfl) ⟨Nat.le_of_ble_eq_true rfl, Nat.le_of_ble_eq_true rfl⟩ ⟨Nat.zero_le _, Nat.zero_le _⟩ dX13_does_126 (fun r38 M37 h => ?_)
    exact ra_iret E hr dX13_does_129 h
  replace h := h.2.2.2.2.2.2.2 q4_0 q4_1 q4_2 q4_3 q4_4 q4_5 q4_6
  refine ra_tableOut (tgt := 130) E dX13_does_24 (by have := lk_ne q4_0 (by decide : (0 : Int32).toInt = 0); have := lk_ne q4_1 (by decide : (1 : Int32).toInt = 1); have := lk_ne q4_2 (by decide : (2 : Int32).toInt = 2); have := lk_ne q4_3 (by decide : (3 : Int32).toInt = 3); have := lk_ne q4_4 (by decide : (4 : Int32).toInt = 4); have := lk_ne q4_5 (by decide : (5 : Int32).toInt = 5); have := lk_ne q4_6 (by decide : (6 : Int32).toInt = 6); omega) (by decide) ?_
  refine ra_aload_n E dX13_does_130 rfl 2 rfl ?_
  refine ra_iload_n E dX13_does_131 rfl 1 rfl ?_
  refine ra_callIV (rest := []) E (c_X13_doWait _ _ _ h) lq_13 cv_X13_doWait ml_X13_286 (by decide) (lmM (by decide)) (fun R => ⟨_, cel_699 tc ad R⟩) rfl rfl rfl (Nat.le_of_ble_eq_true rfl) ⟨Nat.le_of_ble_eq_true rfl, Nat.le_of_ble_eq_true rfl⟩ ⟨Nat.zero_le _, Nat.zero_le _⟩ dX13_does_132 (fun r22 M21 h => ?_)
  exact ra_iret E hr dX13_does_135 h
def f_X2_addOrder (a0 : Nat) (p1 : Int32) (p2 : Int32) (p3 : Int32) (p4 : Int32) (M : TM) (K : TM → Prop) : Prop := f_X2_canAddOrder a0 p1 M (fun r2 M1 => ((r2 = 0 → K M1) ∧ (¬ r2 = 0 → vp_in (M1 a0 6) 30 ∧ f_X6_reset (a0 + 31 + (M1 a0 6).toNatClampNeg) p1 p2 p3 (((M1 a0 8) + p4) - (1 : Int32)) M1 (fun M6 => ∀ M7, M7 = u2 M6 a0 6 ((M6 a0 6) + (1 : Int32)) → K M7))))
set_option maxRecDepth 100000 in
set_option maxHeartbeats 4000000 in
theorem c_X2_addOrder {ad : Nat → Nat} (a0 : Nat) (h0 : IsCanal a0) (p1 : Int32) (p2 : Int32) (p3 : Int32) (p4 : Int32) (M : TM) (K : TM → Prop) (h : f_X2_addOrder a0 p1 p2 p3 p4 M K) : MV yX2_addOrder cX2_addOrder 5 2 ad [.ref (ad a0), .int p1, .int p2, .int p3, .int p4] M K := by
  refine MV_of RX2 rfl (by decide +kernel) (Nat.le_of_ble_eq_true rfl) (fun p l e s m below meth c D tc E hr => ?_)
  unfold f_X2_addOrder at h
  refine ra_aload_n E dX2_addOrder_0 rfl 0 rfl ?_
  refine ra_iload_n E dX2_addOrder_1 rfl 1 rfl ?_
  refine ra_callIV (rest := []) E (c_X2_canAddOrder _ h0 _ _ _ h) (lq_X2 _) cv_X2_canAddOrder ml_X2_94 (by decide) (lm (h0.add (j := 0) (by decide))) (fun R => ⟨_, cel_canal tc ad h0 R⟩) rfl rfl rfl (Nat.le_of_ble_eq_true rfl) ⟨Nat.le_of_ble_eq_true rfl, Nat.le_of_ble_eq_true rfl⟩ ⟨Nat.zero_le _, Nat.zero_le _⟩ dX2_addOrder_2 (fun r2 M1 h => ?_)
  obtain ⟨b3, h⟩ := h
  refine ra_if_eq (tgt := 42) E dX2_addOrder_5 (by decide) (fun q4 => ?_) (fun q4 => ?_)
  · replace h := h.1 q4
    exact ra_vret E hr dX2_addOrder_42 h
  · replace h := h.2 q4
    refine ra_aload_n E dX2_addOrder_8 rfl 0 rfl ?_
    refine gf_X2_7 E h0 fl_X2_42 dX2_addOrder_9 ?_
    refine ra_aload_n E dX2_addOrder_12 rfl 0 rfl ?_
    refine gf_X2_6 E h0 fl_X2_37 dX2_addOrder_13 ?_
    obtain ⟨g5, h⟩ := h
    refine ra_aald E (lm (h0.add (by decide))) (cel_ords tc ad h0) rfl g5 dX2_addOrder_16 ?_
    refine ra_iload_n E dX2_addOrder_17 rfl 1 rfl ?_
    refine ra_iload_n E dX2_addOrder_18 rfl 2 rfl ?_
    refine ra_iload_n E dX2_addOrder_19 rfl 3 rfl ?_
    refine ra_aload_n E dX2_addOrder_20 rfl 0 rfl ?_
    refine gf_X2_8 E h0 fl_X2_46 dX2_addOrder_21 ?_
    refine ra_iload E dX2_addOrder_24 4 rfl ?_
    refine ra_iadd E dX2_addOrder_26 ?_
    refine ra_iconst E dX2_addOrder_27 ki_1 ?_
    refine ra_isub E dX2_addOrder_28 ?_
    refine ra_callVV (rest := []) E (c_X6_reset _ (isOrder_of h0 g5) _ _ _ _ _ _ h) (lq_X6 _) cv_X6_reset ml_X2_97 (by decide) (lm (isOrder_of h0 g5).lt) (fun R => ⟨_, cel_order tc ad (isOrder_of h0 g5) R⟩) rfl rfl rfl (Nat.le_of_ble_eq_true rfl) ⟨Nat.le_of_ble_eq_true rfl, Nat.le_of_ble_eq_true rfl⟩ ⟨Nat.zero_le _, Nat.zero_le _⟩ dX2_addOrder_29 (fun M6 h => ?_)
    refine ra_aload_n E dX2_addOrder_32 rfl 0 rfl ?_
    refine ra_dup E dX2_addOrder_33 rfl ?_
    refine gf_X2_6 E h0 fl_X2_37 dX2_addOrder_34 ?_
    refine ra_iconst E dX2_addOrder_37 ki_1 ?_
    refine ra_iadd E dX2_addOrder_38 ?_
    refine pf_X2_6 E h0 fl_X2_37 dX2_addOrder_39 ?_
    replace h := h _ rfl
    exact ra_vret E hr dX2_addOrder_42 h
def f_X2_serveOrders_L2 (a0 : Nat) (K : TM → Prop) : Nat → Int32 → TM → Prop
  | 0, _, _ => False
  | n + 1, x1, M => (((M a0 6) ≤ x1 → K M) ∧ (¬ (M a0 6) ≤ x1 → vp_in x1 30 ∧ vp_in x1 30 ∧ vp_in (M (a0 + 31 + x1.toNatClampNeg) 6) 5 ∧ ((¬ (M (a0 + 31 + x1.toNatClampNeg) 6) = (2 : Int32) → f_X2_serveOrders_L2 a0 K n (x1 + 1) M) ∧ ((M (a0 + 31 + x1.toNatClampNeg) 6) = (2 : Int32) → f_X2_hasBarge a0 (M (a0 + 31 + x1.toNatClampNeg) 7) M (fun r7 M6 => ((r7 = 0 → f_X2_serveOrders_L2 a0 K n (x1 + 1) M6) ∧ (¬ r7 = 0 → vp_in (M (a0 + 31 + x1.toNatClampNeg) 7) 5 ∧ vp_in x1 30 ∧ f_X2_serve a0 (a0 + 21 + 2 * (M (a0 + 31 + x1.toNatClampNeg) 7).toNatClampNeg) (a0 + 31 + x1.toNatClampNeg) M6 (fun M12 => f_X2_serveOrders_L2 a0 K n (x1 + 1) M12))))))))
set_option maxRecDepth 100000 in
set_option maxHeartbeats 4000000 in
theorem l_X2_serveOrders_L2 {p : Program} {l : Launch} {e : Env} {s : State} {m : MethodId} {args : Array Value} {below : List Frame} {meth : Method} {c : Code} {D : va_G} {tc : Nat → ClassId} {ad : Nat → Nat} (a0 : Nat) (h0 : IsCanal a0) {K : TM → Prop} (E : Ev p s m args meth c D tc ad RX2 cX2_serveOrders 3) (hr : meth.sig.returnType = none) : ∀ (n : Nat) (x1 : Int32) (M : TM) , f_X2_serveOrders_L2 a0 K n x1 M → Wa p l e (rmD 2) s m args below meth c 0 0 (MQ below (va_Qv K (EndW D tc ad) (A0 ad s.heap.size)) args s 0 0 (A0 ad s.heap.size)) D tc ad 3 M 2 [(0, .ref (ad a0)), (1, .int x1)] [] := by
  intro n
  induction n with
  | zero => intro x1 M  h; exact h.elim
  | succ n ih =>
    intro x1 M  h
    unfold f_X2_serveOrders_L2 at h
    refine ra_iload_n E dX2_serveOrders_2 rfl 1 rfl ?_
    refine ra_aload_n E dX2_serveOrders_3 rfl 0 rfl ?_
    refine gf_X2_6 E h0 fl_X2_37 dX2_serveOrders_4 ?_
    refine ra_icmp_ge (tgt := 65) E dX2_serveOrders_7 (by decide) (fun q1 => ?_) (fun q1 => ?_)
    · replace h := h.1 q1
      exact ra_vret E hr dX2_serveOrders_65 h
    · replace h := h.2 q1
      refine ra_aload_n E dX2_serveOrders_10 rfl 0 rfl ?_
      refine gf_X2_7 E h0 fl_X2_42 dX2_serveOrders_11 ?_
      refine ra_iload_n E dX2_serveOrders_14 rfl 1 rfl ?_
      obtain ⟨g2, h⟩ := h
      refine ra_aald E (lm (h0.add (by decide))) (cel_ords tc ad h0) rfl g2 dX2_serveOrders_15 ?_
      refine gf_X6_7 E (isOrder_of h0 g2) fl_X2_109 dX2_serveOrders_16 ?_
      refine ra_istore_n (L' := [(2, _), (0, _), (1, _)]) E dX2_serveOrders_19 rfl (by decide) rfl ?_
      refine ra_aload_n E dX2_serveOrders_20 rfl 1 rfl ?_
      refine gf_X2_7 E h0 fl_X2_42 dX2_serveOrders_21 ?_
      refine ra_iload_n E dX2_serveOrders_24 rfl 2 rfl ?_
      obtain ⟨g3, h⟩ := h
      refine ra_aald E (lm (h0.add (by decide))) (cel_ords tc ad h0) rfl g3 dX2_serveOrders_25 ?_
      refine gf_X6_6 E (isOrder_of h0 g3) fl_X2_132 dX2_serveOrders_26 ?_
      refine gs_O (i := 2) E 2 (by decide) rfl (by decide) fl_X2_257 dX2_serveOrders_29 ?_
      obtain ⟨g5, h⟩ := h
      refine acmpO_ne (tgt := 59) E g5 (vpl _ _ (by decide)) dX2_serveOrders_32 (by decide) (fun q4 => ?_) (fun q4 => ?_)
      · replace h := h.1 q4
        refine ra_iinc1 (L' := [(1, _), (2, _), (0, _)]) E dX2_serveOrders_59 2 rfl (by decide) rfl ?_
        refine ra_goto (tgt := 2) E dX2_serveOrders_62 (by decide) ?_
        exact ra_sub (L' := [(0, _), (1, _)]) [2, 0] rfl (ih _ _ h)
      · replace h := h.2 q4
        refine ra_aload_n E dX2_serveOrders_35 rfl 1 rfl ?_
        refine ra_iload_n E dX2_serveOrders_36 rfl 0 rfl ?_
        refine ra_callIV (rest := []) E (c_X2_hasBarge _ h0 _ _ _ h) (lq_X2 _) cv_X2_hasBarge ml_X2_162 (by decide) (lm (h0.add (j := 0) (by decide))) (fun R => ⟨_, cel_canal tc ad h0 R⟩) rfl rfl rfl (Nat.le_of_ble_eq_true rfl) ⟨Nat.le_of_ble_eq_true rfl, Nat.le_of_ble_eq_true rfl⟩ ⟨Nat.zero_le _, Nat.zero_le _⟩ dX2_serveOrders_37 (fun r7 M6 h => ?_)
        obtain ⟨b8, h⟩ := h
        refine ra_if_eq (tgt := 59) E dX2_serveOrders_40 (by decide) (fun q9 => ?_) (fun q9 => ?_)
        · replace h := h.1 q9
          refine ra_iinc1 (L' := [(1, _), (2, _), (0, _)]) E dX2_serveOrders_59 2 rfl (by decide) rfl ?_
          refine ra_goto (tgt := 2) E dX2_serveOrders_62 (by decide) ?_
          exact ra_sub (L' := [(0, _), (1, _)]) [2, 0] rfl (ih _ _ h)
        · replace h := h.2 q9
          refine ra_aload_n E dX2_serveOrders_43 rfl 1 rfl ?_
          refine ra_aload_n E dX2_serveOrders_44 rfl 1 rfl ?_
          refine gf_X2_5 E h0 fl_X2_33 dX2_serveOrders_45 ?_
          refine ra_iload_n E dX2_serveOrders_48 rfl 0 rfl ?_
          obtain ⟨g10, h⟩ := h
          refine ra_aald E (lm (h0.add (by decide))) (cel_bars tc ad h0) rfl g10 dX2_serveOrders_49 ?_
          refine ra_aload_n E dX2_serveOrders_50 rfl 1 rfl ?_
          refine gf_X2_7 E h0 fl_X2_42 dX2_serveOrders_51 ?_
          refine ra_iload_n E dX2_serveOrders_54 rfl 2 rfl ?_
          obtain ⟨g11, h⟩ := h
          refine ra_aald E (lm (h0.add (by decide))) (cel_ords tc ad h0) rfl g11 dX2_serveOrders_55 ?_
          refine ra_callVV (rest := []) E (c_X2_serve _ h0 _ (isBarge_of h0 g10) _ (isOrder_of h0 g11) _ _ h) (lq_X2 _) cv_X2_serve ml_X2_260 (by decide) (lm (h0.add (j := 0) (by decide))) (fun R => ⟨_, cel_canal tc ad h0 R⟩) rfl rfl rfl (Nat.le_of_ble_eq_true rfl) ⟨Nat.le_of_ble_eq_true rfl, Nat.le_of_ble_eq_true rfl⟩ ⟨Nat.zero_le _, Nat.zero_le _⟩ dX2_serveOrders_56 (fun M12 h => ?_)
          refine ra_iinc1 (L' := [(1, _), (2, _), (0, _)]) E dX2_serveOrders_59 2 rfl (by decide) rfl ?_
          refine ra_goto (tgt := 2) E dX2_serveOrders_62 (by decide) ?_
          exact ra_sub (L' := [(0, _), (1, _)]) [2, 0] rfl (ih _ _ h)
def f_X2_serveOrders (a0 : Nat) (M : TM) (K : TM → Prop) : Prop := ∃ n, f_X2_serveOrders_L2 a0 K n (0 : Int32) M
set_option maxRecDepth 100000 in
set_option maxHeartbeats 4000000 in
theorem c_X2_serveOrders {ad : Nat → Nat} (a0 : Nat) (h0 : IsCanal a0) (M : TM) (K : TM → Prop) (h : f_X2_serveOrders a0 M K) : MV yX2_serveOrders cX2_serveOrders 3 2 ad [.ref (ad a0)] M K := by
  refine MV_of RX2 rfl (by decide +kernel) (Nat.le_of_ble_eq_true rfl) (fun p l e s m below meth c D tc E hr => ?_)
  unfold f_X2_serveOrders at h
  refine ra_iconst E dX2_serveOrders_0 ki_0 ?_
  refine ra_istore_n (L' := [(1, _), (0, _)]) E dX2_serveOrders_1 rfl (by decide) rfl ?_
  obtain ⟨n13, h⟩ := h
  exact ra_sub (L' := [(0, _), (1, _)]) [1, 0] rfl (l_X2_serveOrders_L2 a0 h0 E hr n13 _ _ h)
def f_X3_parseLock_L47 (a1 : Nat) (K : TM → Prop) (x3 : Int32) (M : TM) : Prop := vp_in x3 15 ∧ f_X10_readNumber (1 : Int32) (9 : Int32) M (fun r13 M12 => ∀ M14, M14 = u2 M12 (a1 + 6 + x3.toNatClampNeg) 0 r13 → f_X10_readToken (5 : Int32) M14 (fun M15 => K M15))
set_option maxRecDepth 100000 in
set_option maxHeartbeats 4000000 in
theorem l_X3_parseLock_L47 {p : Program} {l : Launch} {e : Env} {s : State} {m : MethodId} {args : Array Value} {below : List Frame} {meth : Method} {c : Code} {D : va_G} {tc : Nat → ClassId} {ad : Nat → Nat} (a1 : Nat) (h1 : IsCanal a1) {K : TM → Prop} (E : Ev p s m args meth c D tc ad RX3 cX3_parseLock 4) (hr : meth.sig.returnType = none) : ∀ (x3 : Int32) (M : TM) , f_X3_parseLock_L47 a1 K x3 M → Wa p l e (rmD 3) s m args below meth c 0 0 (MQ below (va_Qv K (EndW D tc ad) (A0 ad s.heap.size)) args s 0 0 (A0 ad s.heap.size)) D tc ad 4 M 47 [(0, .ref (ad 1)), (1, .ref (ad a1)), (3, .int x3)] [] := by
  intro x3 M  h
  unfold f_X3_parseLock_L47 at h
  refine ra_aload_n E dX3_parseLock_47 rfl 1 rfl ?_
  refine gf_X2_1 E h1 fl_X3_70 dX3_parseLock_48 ?_
  refine ra_iload_n E dX3_parseLock_51 rfl 2 rfl ?_
  obtain ⟨g11, h⟩ := h
  refine ra_aald E (lm (h1.add (by decide))) (cel_secs tc ad h1) rfl g11 dX3_parseLock_52 ?_
  refine ra_aload_n E dX3_parseLock_53 rfl 0 rfl ?_
  refine ra_iconst E dX3_parseLock_54 ki_1 ?_
  refine ra_bipush E dX3_parseLock_55 kb_9 ?_
  refine ra_callIV (rest := [_]) E (c_X10_readNumber _ _ _ _ h) (lq_X10 _) cv_X10_readNumber ml_X3_17 (by decide) (lm (by decide)) (fun R => ⟨_, cel_1 tc ad R⟩) rfl rfl rfl (Nat.le_of_ble_eq_true rfl) ⟨Nat.le_of_ble_eq_true rfl, Nat.le_of_ble_eq_true rfl⟩ ⟨Nat.zero_le _, Nat.zero_le _⟩ dX3_parseLock_57 (fun r13 M12 h => ?_)
  refine pf_X9_0 E (isSec_of h1 g11) fl_X3_74 dX3_parseLock_60 ?_
  replace h := h _ rfl
  refine ra_aload_n E dX3_parseLock_63 rfl 0 rfl ?_
  refine ra_iconst E dX3_parseLock_64 ki_5 ?_
  refine ra_callVV (rest := []) E (c_X10_readToken _ _ _ h) (lq_X10 _) cv_X10_readToken ml_X3_27 (by decide) (lm (by decide)) (fun R => ⟨_, cel_1 tc ad R⟩) rfl rfl rfl (Nat.le_of_ble_eq_true rfl) ⟨Nat.le_of_ble_eq_true rfl, Nat.le_of_ble_eq_true rfl⟩ ⟨Nat.zero_le _, Nat.zero_le _⟩ dX3_parseLock_65 (fun M15 h => ?_)
  exact ra_vret E hr dX3_parseLock_68 h
def f_X3_parseLock (a1 : Nat) (M : TM) (K : TM → Prop) : Prop := f_X10_advance M (fun M1 => f_X10_readNumber (0 : Int32) ((M1 a1 0) - (2 : Int32)) M1 (fun r3 M2 => f_X2_hasSection a1 r3 M2 (fun r5 M4 => ((r5 = 0 → f_X10_readToken (5 : Int32) M4 (fun M8 => K M8)) ∧ (¬ r5 = 0 → vp_in r3 15 ∧ (((M4 (a1 + 6 + r3.toNatClampNeg) 0) ≤ 0 → f_X3_parseLock_L47 a1 K r3 M4) ∧ (¬ (M4 (a1 + 6 + r3.toNatClampNeg) 0) ≤ 0 → f_X10_failAt (3 : Int32) (M1 1 4) M4 (fun M16 => f_X3_parseLock_L47 a1 K r3 M16))))))))
set_option maxRecDepth 100000 in
set_option maxHeartbeats 4000000 in
theorem c_X3_parseLock {ad : Nat → Nat} (a1 : Nat) (h1 : IsCanal a1) (M : TM) (K : TM → Prop) (h : f_X3_parseLock a1 M K) : MV yX3_parseLock cX3_parseLock 4 3 ad [.ref (ad 1), .ref (ad a1)] M K := by
  refine MV_of RX3 rfl (by decide +kernel) (Nat.le_of_ble_eq_true rfl) (fun p l e s m below meth c D tc E hr => ?_)
  unfold f_X3_parseLock at h
  refine ra_aload_n E dX3_parseLock_0 rfl 0 rfl ?_
  refine ra_callVV (rest := []) E (c_X10_advance _ _ h) (lq_X10 _) cv_X10_advance ml_X3_56 (by decide) (lm (by decide)) (fun R => ⟨_, cel_1 tc ad R⟩) rfl rfl rfl (Nat.le_of_ble_eq_true rfl) ⟨Nat.le_of_ble_eq_true rfl, Nat.le_of_ble_eq_true rfl⟩ ⟨Nat.zero_le _, Nat.zero_le _⟩ dX3_parseLock_1 (fun M1 h => ?_)
  refine ra_aload_n E dX3_parseLock_4 rfl 0 rfl ?_
  refine gf_X10_4 E fl_X3_59 dX3_parseLock_5 ?_
  refine ra_istore_n (L' := [(2, _), (0, _), (1, _)]) E dX3_parseLock_8 rfl (by decide) rfl ?_
  refine ra_aload_n E dX3_parseLock_9 rfl 1 rfl ?_
  refine ra_iconst E dX3_parseLock_10 ki_0 ?_
  refine ra_aload_n E dX3_parseLock_11 rfl 2 rfl ?_
  refine gf_X2_0 E h1 fl_X3_63 dX3_parseLock_12 ?_
  refine ra_iconst E dX3_parseLock_15 ki_2 ?_
  refine ra_isub E dX3_parseLock_16 ?_
  refine ra_callIV (rest := []) E (c_X10_readNumber _ _ _ _ h) (lq_X10 _) cv_X10_readNumber ml_X3_17 (by decide) (lm (by decide)) (fun R => ⟨_, cel_1 tc ad R⟩) rfl rfl rfl (Nat.le_of_ble_eq_true rfl) ⟨Nat.le_of_ble_eq_true rfl, Nat.le_of_ble_eq_true rfl⟩ ⟨Nat.zero_le _, Nat.zero_le _⟩ dX3_parseLock_17 (fun r3 M2 h => ?_)
  refine ra_istore_n (L' := [(3, _), (2, _), (0, _), (1, _)]) E dX3_parseLock_20 rfl (by decide) rfl ?_
  refine ra_aload_n E dX3_parseLock_21 rfl 3 rfl ?_
  refine ra_iload_n E dX3_parseLock_22 rfl 0 rfl ?_
  refine ra_callIV (rest := []) E (c_X2_hasSection _ h1 _ _ _ h) (lq_X2 _) cv_X2_hasSection ml_X3_66 (by decide) (lm (h1.add (j := 0) (by decide))) (fun R => ⟨_, cel_canal tc ad h1 R⟩) rfl rfl rfl (Nat.le_of_ble_eq_true rfl) ⟨Nat.le_of_ble_eq_true rfl, Nat.le_of_ble_eq_true rfl⟩ ⟨Nat.zero_le _, Nat.zero_le _⟩ dX3_parseLock_23 (fun r5 M4 h => ?_)
  obtain ⟨b6, h⟩ := h
  refine ra_if_eq (tgt := 63) E dX3_parseLock_26 (by decide) (fun q7 => ?_) (fun q7 => ?_)
  · replace h := h.1 q7
    refine ra_aload_n E dX3_parseLock_63 rfl 2 rfl ?_
    refine ra_iconst E dX3_parseLock_64 ki_5 ?_
    refine ra_callVV (rest := []) E (c_X10_readToken _ _ _ h) (lq_X10 _) cv_X10_readToken ml_X3_27 (by decide) (lm (by decide)) (fun R => ⟨_, cel_1 tc ad R⟩) rfl rfl rfl (Nat.le_of_ble_eq_true rfl) ⟨Nat.le_of_ble_eq_true rfl, Nat.le_of_ble_eq_true rfl⟩ ⟨Nat.zero_le _, Nat.zero_le _⟩ dX3_parseLock_65 (fun M8 h => ?_)
    exact ra_vret E hr dX3_parseLock_68 h
  · replace h := h.2 q7
    refine ra_aload_n E dX3_parseLock_29 rfl 3 rfl ?_
    refine gf_X2_1 E h1 fl_X3_70 dX3_parseLock_30 ?_
    refine ra_iload_n E dX3_parseLock_33 rfl 0 rfl ?_
    obtain ⟨g9, h⟩ := h
    refine ra_aald E (lm (h1.add (by decide))) (cel_secs tc ad h1) rfl g9 dX3_parseLock_34 ?_
    refine gf_X9_0 E (isSec_of h1 g9) fl_X3_74 dX3_parseLock_35 ?_
    refine ra_if_le (tgt := 47) E dX3_parseLock_38 (by decide) (fun q10 => ?_) (fun q10 => ?_)
    · replace h := h.1 q10
      exact ra_sub (L' := [(0, _), (1, _), (3, _)]) [2, 3, 0] rfl (l_X3_parseLock_L47 a1 h1 E hr _ _ h)
    · replace h := h.2 q10
      refine ra_aload_n E dX3_parseLock_41 rfl 2 rfl ?_
      refine ra_iconst E dX3_parseLock_42 ki_3 ?_
      refine ra_iload_n E dX3_parseLock_43 rfl 1 rfl ?_
      refine ra_callVV (rest := []) E (c_X10_failAt _ _ _ _ h) (lq_X10 _) cv_X10_failAt ml_X3_79 (by decide) (lm (by decide)) (fun R => ⟨_, cel_1 tc ad R⟩) rfl rfl rfl (Nat.le_of_ble_eq_true rfl) ⟨Nat.le_of_ble_eq_true rfl, Nat.le_of_ble_eq_true rfl⟩ ⟨Nat.zero_le _, Nat.zero_le _⟩ dX3_parseLock_44 (fun M16 h => ?_)
      exact ra_sub (L' := [(0, _), (1, _), (3, _)]) [2, 3, 0] rfl (l_X3_parseLock_L47 a1 h1 E hr _ _ h)
def f_X3_parseBridge_L47 (a1 : Nat) (K : TM → Prop) (x3 : Int32) (M : TM) : Prop := vp_in x3 15 ∧ f_X10_readNumber (1 : Int32) (9 : Int32) M (fun r13 M12 => ∀ M14, M14 = u2 M12 (a1 + 6 + x3.toNatClampNeg) 1 r13 → f_X10_readToken (5 : Int32) M14 (fun M15 => K M15))
set_option maxRecDepth 100000 in
set_option maxHeartbeats 4000000 in
theorem l_X3_parseBridge_L47 {p : Program} {l : Launch} {e : Env} {s : State} {m : MethodId} {args : Array Value} {below : List Frame} {meth : Method} {c : Code} {D : va_G} {tc : Nat → ClassId} {ad : Nat → Nat} (a1 : Nat) (h1 : IsCanal a1) {K : TM → Prop} (E : Ev p s m args meth c D tc ad RX3 cX3_parseBridge 4) (hr : meth.sig.returnType = none) : ∀ (x3 : Int32) (M : TM) , f_X3_parseBridge_L47 a1 K x3 M → Wa p l e (rmD 3) s m args below meth c 0 0 (MQ below (va_Qv K (EndW D tc ad) (A0 ad s.heap.size)) args s 0 0 (A0 ad s.heap.size)) D tc ad 4 M 47 [(0, .ref (ad 1)), (1, .ref (ad a1)), (3, .int x3)] [] := by
  intro x3 M  h
  unfold f_X3_parseBridge_L47 at h
  refine ra_aload_n E dX3_parseBridge_47 rfl 1 rfl ?_
  refine gf_X2_1 E h1 fl_X3_70 dX3_parseBridge_48 ?_
  refine ra_iload_n E dX3_parseBridge_51 rfl 2 rfl ?_
  obtain ⟨g11, h⟩ := h
  refine ra_aald E (lm (h1.add (by decide))) (cel_secs tc ad h1) rfl g11 dX3_parseBridge_52 ?_
  refine ra_aload_n E dX3_parseBridge_53 rfl 0 rfl ?_
  refine ra_iconst E dX3_parseBridge_54 ki_1 ?_
  refine ra_bipush E dX3_parseBridge_55 kb_9 ?_
  refine ra_callIV (rest := [_]) E (c_X10_readNumber _ _ _ _ h) (lq_X10 _) cv_X10_readNumber ml_X3_17 (by decide) (lm (by decide)) (fun R => ⟨_, cel_1 tc ad R⟩) rfl rfl rfl (Nat.le_of_ble_eq_true rfl) ⟨Nat.le_of_ble_eq_true rfl, Nat.le_of_ble_eq_true rfl⟩ ⟨Nat.zero_le _, Nat.zero_le _⟩ dX3_parseBridge_57 (fun r13 M12 h => ?_)
  refine pf_X9_1 E (isSec_of h1 g11) fl_X3_83 dX3_parseBridge_60 ?_
  replace h := h _ rfl
  refine ra_aload_n E dX3_parseBridge_63 rfl 0 rfl ?_
  refine ra_iconst E dX3_parseBridge_64 ki_5 ?_
  refine ra_callVV (rest := []) E (c_X10_readToken _ _ _ h) (lq_X10 _) cv_X10_readToken ml_X3_27 (by decide) (lm (by decide)) (fun R => ⟨_, cel_1 tc ad R⟩) rfl rfl rfl (Nat.le_of_ble_eq_true rfl) ⟨Nat.le_of_ble_eq_true rfl, Nat.le_of_ble_eq_true rfl⟩ ⟨Nat.zero_le _, Nat.zero_le _⟩ dX3_parseBridge_65 (fun M15 h => ?_)
  exact ra_vret E hr dX3_parseBridge_68 h
def f_X3_parseBridge (a1 : Nat) (M : TM) (K : TM → Prop) : Prop := f_X10_advance M (fun M1 => f_X10_readNumber (0 : Int32) ((M1 a1 0) - (2 : Int32)) M1 (fun r3 M2 => f_X2_hasSection a1 r3 M2 (fun r5 M4 => ((r5 = 0 → f_X10_readToken (5 : Int32) M4 (fun M8 => K M8)) ∧ (¬ r5 = 0 → vp_in r3 15 ∧ (((M4 (a1 + 6 + r3.toNatClampNeg) 1) ≤ 0 → f_X3_parseBridge_L47 a1 K r3 M4) ∧ (¬ (M4 (a1 + 6 + r3.toNatClampNeg) 1) ≤ 0 → f_X10_failAt (3 : Int32) (M1 1 4) M4 (fun M16 => f_X3_parseBridge_L47 a1 K r3 M16))))))))
set_option maxRecDepth 100000 in
set_option maxHeartbeats 4000000 in
theorem c_X3_parseBridge {ad : Nat → Nat} (a1 : Nat) (h1 : IsCanal a1) (M : TM) (K : TM → Prop) (h : f_X3_parseBridge a1 M K) : MV yX3_parseBridge cX3_parseBridge 4 3 ad [.ref (ad 1), .ref (ad a1)] M K := by
  refine MV_of RX3 rfl (by decide +kernel) (Nat.le_of_ble_eq_true rfl) (fun p l e s m below meth c D tc E hr => ?_)
  unfold f_X3_parseBridge at h
  refine ra_aload_n E dX3_parseBridge_0 rfl 0 rfl ?_
  refine ra_callVV (rest := []) E (c_X10_advance _ _ h) (lq_X10 _) cv_X10_advance ml_X3_56 (by decide) (lm (by decide)) (fun R => ⟨_, cel_1 tc ad R⟩) rfl rfl rfl (Nat.le_of_ble_eq_true rfl) ⟨Nat.le_of_ble_eq_true rfl, Nat.le_of_ble_eq_true rfl⟩ ⟨Nat.zero_le _, Nat.zero_le _⟩ dX3_parseBridge_1 (fun M1 h => ?_)
  refine ra_aload_n E dX3_parseBridge_4 rfl 0 rfl ?_
  refine gf_X10_4 E fl_X3_59 dX3_parseBridge_5 ?_
  refine ra_istore_n (L' := [(2, _), (0, _), (1, _)]) E dX3_parseBridge_8 rfl (by decide) rfl ?_
  refine ra_aload_n E dX3_parseBridge_9 rfl 1 rfl ?_
  refine ra_iconst E dX3_parseBridge_10 ki_0 ?_
  refine ra_aload_n E dX3_parseBridge_11 rfl 2 rfl ?_
  refine gf_X2_0 E h1 fl_X3_63 dX3_parseBridge_12 ?_
  refine ra_iconst E dX3_parseBridge_15 ki_2 ?_
  refine ra_isub E dX3_parseBridge_16 ?_
  refine ra_callIV (rest := []) E (c_X10_readNumber _ _ _ _ h) (lq_X10 _) cv_X10_readNumber ml_X3_17 (by decide) (lm (by decide)) (fun R => ⟨_, cel_1 tc ad R⟩) rfl rfl rfl (Nat.le_of_ble_eq_true rfl) ⟨Nat.le_of_ble_eq_true rfl, Nat.le_of_ble_eq_true rfl⟩ ⟨Nat.zero_le _, Nat.zero_le _⟩ dX3_parseBridge_17 (fun r3 M2 h => ?_)
  refine ra_istore_n (L' := [(3, _), (2, _), (0, _), (1, _)]) E dX3_parseBridge_20 rfl (by decide) rfl ?_
  refine ra_aload_n E dX3_parseBridge_21 rfl 3 rfl ?_
  refine ra_iload_n E dX3_parseBridge_22 rfl 0 rfl ?_
  refine ra_callIV (rest := []) E (c_X2_hasSection _ h1 _ _ _ h) (lq_X2 _) cv_X2_hasSection ml_X3_66 (by decide) (lm (h1.add (j := 0) (by decide))) (fun R => ⟨_, cel_canal tc ad h1 R⟩) rfl rfl rfl (Nat.le_of_ble_eq_true rfl) ⟨Nat.le_of_ble_eq_true rfl, Nat.le_of_ble_eq_true rfl⟩ ⟨Nat.zero_le _, Nat.zero_le _⟩ dX3_parseBridge_23 (fun r5 M4 h => ?_)
  obtain ⟨b6, h⟩ := h
  refine ra_if_eq (tgt := 63) E dX3_parseBridge_26 (by decide) (fun q7 => ?_) (fun q7 => ?_)
  · replace h := h.1 q7
    refine ra_aload_n E dX3_parseBridge_63 rfl 2 rfl ?_
    refine ra_iconst E dX3_parseBridge_64 ki_5 ?_
    refine ra_callVV (rest := []) E (c_X10_readToken _ _ _ h) (lq_X10 _) cv_X10_readToken ml_X3_27 (by decide) (lm (by decide)) (fun R => ⟨_, cel_1 tc ad R⟩) rfl rfl rfl (Nat.le_of_ble_eq_true rfl) ⟨Nat.le_of_ble_eq_true rfl, Nat.le_of_ble_eq_true rfl⟩ ⟨Nat.zero_le _, Nat.zero_le _⟩ dX3_parseBridge_65 (fun M8 h => ?_)
    exact ra_vret E hr dX3_parseBridge_68 h
  · replace h := h.2 q7
    refine ra_aload_n E dX3_parseBridge_29 rfl 3 rfl ?_
    refine gf_X2_1 E h1 fl_X3_70 dX3_parseBridge_30 ?_
    refine ra_iload_n E dX3_parseBridge_33 rfl 0 rfl ?_
    obtain ⟨g9, h⟩ := h
    refine ra_aald E (lm (h1.add (by decide))) (cel_secs tc ad h1) rfl g9 dX3_parseBridge_34 ?_
    refine gf_X9_1 E (isSec_of h1 g9) fl_X3_83 dX3_parseBridge_35 ?_
    refine ra_if_le (tgt := 47) E dX3_parseBridge_38 (by decide) (fun q10 => ?_) (fun q10 => ?_)
    · replace h := h.1 q10
      exact ra_sub (L' := [(0, _), (1, _), (3, _)]) [2, 3, 0] rfl (l_X3_parseBridge_L47 a1 h1 E hr _ _ h)
    · replace h := h.2 q10
      refine ra_aload_n E dX3_parseBridge_41 rfl 2 rfl ?_
      refine ra_iconst E dX3_parseBridge_42 ki_3 ?_
      refine ra_iload_n E dX3_parseBridge_43 rfl 1 rfl ?_
      refine ra_callVV (rest := []) E (c_X10_failAt _ _ _ _ h) (lq_X10 _) cv_X10_failAt ml_X3_79 (by decide) (lm (by decide)) (fun R => ⟨_, cel_1 tc ad R⟩) rfl rfl rfl (Nat.le_of_ble_eq_true rfl) ⟨Nat.le_of_ble_eq_true rfl, Nat.le_of_ble_eq_true rfl⟩ ⟨Nat.zero_le _, Nat.zero_le _⟩ dX3_parseBridge_44 (fun M16 h => ?_)
      exact ra_sub (L' := [(0, _), (1, _), (3, _)]) [2, 3, 0] rfl (l_X3_parseBridge_L47 a1 h1 E hr _ _ h)
def f_X3_parseBarge (a1 : Nat) (M : TM) (K : TM → Prop) : Prop := f_X10_advance M (fun M1 => f_X10_readNumber (0 : Int32) ((M1 a1 0) - (1 : Int32)) M1 (fun r3 M2 => f_X10_readNumber (1 : Int32) (9 : Int32) M2 (fun r5 M4 => f_X10_readNumber (0 : Int32) (99 : Int32) M4 (fun r7 M6 => f_X10_readNumber (0 : Int32) (99 : Int32) M6 (fun r9 M8 => f_X10_readToken (5 : Int32) M8 (fun M10 => f_X2_addBarge a1 r3 r5 r7 r9 M10 (fun M11 => K M11)))))))
set_option maxRecDepth 100000 in
set_option maxHeartbeats 4000000 in
theorem c_X3_parseBarge {ad : Nat → Nat} (a1 : Nat) (h1 : IsCanal a1) (M : TM) (K : TM → Prop) (h : f_X3_parseBarge a1 M K) : MV yX3_parseBarge cX3_parseBarge 6 3 ad [.ref (ad 1), .ref (ad a1)] M K := by
  refine MV_of RX3 rfl (by decide +kernel) (Nat.le_of_ble_eq_true rfl) (fun p l e s m below meth c D tc E hr => ?_)
  unfold f_X3_parseBarge at h
  refine ra_aload_n E dX3_parseBarge_0 rfl 0 rfl ?_
  refine ra_callVV (rest := []) E (c_X10_advance _ _ h) (lq_X10 _) cv_X10_advance ml_X3_56 (by decide) (lm (by decide)) (fun R => ⟨_, cel_1 tc ad R⟩) rfl rfl rfl (Nat.le_of_ble_eq_true rfl) ⟨Nat.le_of_ble_eq_true rfl, Nat.le_of_ble_eq_true rfl⟩ ⟨Nat.zero_le _, Nat.zero_le _⟩ dX3_parseBarge_1 (fun M1 h => ?_)
  refine ra_aload_n E dX3_parseBarge_4 rfl 0 rfl ?_
  refine ra_iconst E dX3_parseBarge_5 ki_0 ?_
  refine ra_aload_n E dX3_parseBarge_6 rfl 1 rfl ?_
  refine gf_X2_0 E h1 fl_X3_63 dX3_parseBarge_7 ?_
  refine ra_iconst E dX3_parseBarge_10 ki_1 ?_
  refine ra_isub E dX3_parseBarge_11 ?_
  refine ra_callIV (rest := []) E (c_X10_readNumber _ _ _ _ h) (lq_X10 _) cv_X10_readNumber ml_X3_17 (by decide) (lm (by decide)) (fun R => ⟨_, cel_1 tc ad R⟩) rfl rfl rfl (Nat.le_of_ble_eq_true rfl) ⟨Nat.le_of_ble_eq_true rfl, Nat.le_of_ble_eq_true rfl⟩ ⟨Nat.zero_le _, Nat.zero_le _⟩ dX3_parseBarge_12 (fun r3 M2 h => ?_)
  refine ra_istore_n (L' := [(2, _), (0, _), (1, _)]) E dX3_parseBarge_15 rfl (by decide) rfl ?_
  refine ra_aload_n E dX3_parseBarge_16 rfl 1 rfl ?_
  refine ra_iconst E dX3_parseBarge_17 ki_1 ?_
  refine ra_bipush E dX3_parseBarge_18 kb_9 ?_
  refine ra_callIV (rest := []) E (c_X10_readNumber _ _ _ _ h) (lq_X10 _) cv_X10_readNumber ml_X3_17 (by decide) (lm (by decide)) (fun R => ⟨_, cel_1 tc ad R⟩) rfl rfl rfl (Nat.le_of_ble_eq_true rfl) ⟨Nat.le_of_ble_eq_true rfl, Nat.le_of_ble_eq_true rfl⟩ ⟨Nat.zero_le _, Nat.zero_le _⟩ dX3_parseBarge_20 (fun r5 M4 h => ?_)
  refine ra_istore_n (L' := [(3, _), (2, _), (0, _), (1, _)]) E dX3_parseBarge_23 rfl (by decide) rfl ?_
  refine ra_aload_n E dX3_parseBarge_24 rfl 2 rfl ?_
  refine ra_iconst E dX3_parseBarge_25 ki_0 ?_
  refine ra_bipush E dX3_parseBarge_26 kb_99 ?_
  refine ra_callIV (rest := []) E (c_X10_readNumber _ _ _ _ h) (lq_X10 _) cv_X10_readNumber ml_X3_17 (by decide) (lm (by decide)) (fun R => ⟨_, cel_1 tc ad R⟩) rfl rfl rfl (Nat.le_of_ble_eq_true rfl) ⟨Nat.le_of_ble_eq_true rfl, Nat.le_of_ble_eq_true rfl⟩ ⟨Nat.zero_le _, Nat.zero_le _⟩ dX3_parseBarge_28 (fun r7 M6 h => ?_)
  refine ra_istore (L' := [(4, _), (3, _), (2, _), (0, _), (1, _)]) E dX3_parseBarge_31 (by decide) rfl ?_
  refine ra_aload_n E dX3_parseBarge_33 rfl 3 rfl ?_
  refine ra_iconst E dX3_parseBarge_34 ki_0 ?_
  refine ra_bipush E dX3_parseBarge_35 kb_99 ?_
  refine ra_callIV (rest := []) E (c_X10_readNumber _ _ _ _ h) (lq_X10 _) cv_X10_readNumber ml_X3_17 (by decide) (lm (by decide)) (fun R => ⟨_, cel_1 tc ad R⟩) rfl rfl rfl (Nat.le_of_ble_eq_true rfl) ⟨Nat.le_of_ble_eq_true rfl, Nat.le_of_ble_eq_true rfl⟩ ⟨Nat.zero_le _, Nat.zero_le _⟩ dX3_parseBarge_37 (fun r9 M8 h => ?_)
  refine ra_istore (L' := [(5, _), (4, _), (3, _), (2, _), (0, _), (1, _)]) E dX3_parseBarge_40 (by decide) rfl ?_
  refine ra_aload_n E dX3_parseBarge_42 rfl 4 rfl ?_
  refine ra_iconst E dX3_parseBarge_43 ki_5 ?_
  refine ra_callVV (rest := []) E (c_X10_readToken _ _ _ h) (lq_X10 _) cv_X10_readToken ml_X3_27 (by decide) (lm (by decide)) (fun R => ⟨_, cel_1 tc ad R⟩) rfl rfl rfl (Nat.le_of_ble_eq_true rfl) ⟨Nat.le_of_ble_eq_true rfl, Nat.le_of_ble_eq_true rfl⟩ ⟨Nat.zero_le _, Nat.zero_le _⟩ dX3_parseBarge_44 (fun M10 h => ?_)
  refine ra_aload_n E dX3_parseBarge_47 rfl 5 rfl ?_
  refine ra_iload_n E dX3_parseBarge_48 rfl 3 rfl ?_
  refine ra_iload_n E dX3_parseBarge_49 rfl 2 rfl ?_
  refine ra_iload E dX3_parseBarge_50 1 rfl ?_
  refine ra_iload E dX3_parseBarge_52 0 rfl ?_
  refine ra_callVV (rest := []) E (c_X2_addBarge _ h1 _ _ _ _ _ _ h) (lq_X2 _) cv_X2_addBarge ml_X3_94 (by decide) (lm (h1.add (j := 0) (by decide))) (fun R => ⟨_, cel_canal tc ad h1 R⟩) rfl rfl rfl (Nat.le_of_ble_eq_true rfl) ⟨Nat.le_of_ble_eq_true rfl, Nat.le_of_ble_eq_true rfl⟩ ⟨Nat.zero_le _, Nat.zero_le _⟩ dX3_parseBarge_54 (fun M11 h => ?_)
  exact ra_vret E hr dX3_parseBarge_57 h
def f_X3_parseOrder (a1 : Nat) (M : TM) (K : TM → Prop) : Prop := f_X10_advance M (fun M1 => f_X10_readNumber (0 : Int32) ((M1 a1 0) - (1 : Int32)) M1 (fun r3 M2 => f_X10_readNumber (1 : Int32) (4 : Int32) M2 (fun r5 M4 => f_X10_readNumber (1 : Int32) (6 : Int32) M4 (fun r7 M6 => f_X10_readNumber (1 : Int32) (500 : Int32) M6 (fun r9 M8 => f_X10_readToken (5 : Int32) M8 (fun M10 => f_X2_addOrder a1 r3 r5 r7 r9 M10 (fun M11 => K M11)))))))
set_option maxRecDepth 100000 in
set_option maxHeartbeats 4000000 in
theorem c_X3_parseOrder {ad : Nat → Nat} (a1 : Nat) (h1 : IsCanal a1) (M : TM) (K : TM → Prop) (h : f_X3_parseOrder a1 M K) : MV yX3_parseOrder cX3_parseOrder 6 3 ad [.ref (ad 1), .ref (ad a1)] M K := by
  refine MV_of RX3 rfl (by decide +kernel) (Nat.le_of_ble_eq_true rfl) (fun p l e s m below meth c D tc E hr => ?_)
  unfold f_X3_parseOrder at h
  refine ra_aload_n E dX3_parseOrder_0 rfl 0 rfl ?_
  refine ra_callVV (rest := []) E (c_X10_advance _ _ h) (lq_X10 _) cv_X10_advance ml_X3_56 (by decide) (lm (by decide)) (fun R => ⟨_, cel_1 tc ad R⟩) rfl rfl rfl (Nat.le_of_ble_eq_true rfl) ⟨Nat.le_of_ble_eq_true rfl, Nat.le_of_ble_eq_true rfl⟩ ⟨Nat.zero_le _, Nat.zero_le _⟩ dX3_parseOrder_1 (fun M1 h => ?_)
  refine ra_aload_n E dX3_parseOrder_4 rfl 0 rfl ?_
  refine ra_iconst E dX3_parseOrder_5 ki_0 ?_
  refine ra_aload_n E dX3_parseOrder_6 rfl 1 rfl ?_
  refine gf_X2_0 E h1 fl_X3_63 dX3_parseOrder_7 ?_
  refine ra_iconst E dX3_parseOrder_10 ki_1 ?_
  refine ra_isub E dX3_parseOrder_11 ?_
  refine ra_callIV (rest := []) E (c_X10_readNumber _ _ _ _ h) (lq_X10 _) cv_X10_readNumber ml_X3_17 (by decide) (lm (by decide)) (fun R => ⟨_, cel_1 tc ad R⟩) rfl rfl rfl (Nat.le_of_ble_eq_true rfl) ⟨Nat.le_of_ble_eq_true rfl, Nat.le_of_ble_eq_true rfl⟩ ⟨Nat.zero_le _, Nat.zero_le _⟩ dX3_parseOrder_12 (fun r3 M2 h => ?_)
  refine ra_istore_n (L' := [(2, _), (0, _), (1, _)]) E dX3_parseOrder_15 rfl (by decide) rfl ?_
  refine ra_aload_n E dX3_parseOrder_16 rfl 1 rfl ?_
  refine ra_iconst E dX3_parseOrder_17 ki_1 ?_
  refine ra_iconst E dX3_parseOrder_18 ki_4 ?_
  refine ra_callIV (rest := []) E (c_X10_readNumber _ _ _ _ h) (lq_X10 _) cv_X10_readNumber ml_X3_17 (by decide) (lm (by decide)) (fun R => ⟨_, cel_1 tc ad R⟩) rfl rfl rfl (Nat.le_of_ble_eq_true rfl) ⟨Nat.le_of_ble_eq_true rfl, Nat.le_of_ble_eq_true rfl⟩ ⟨Nat.zero_le _, Nat.zero_le _⟩ dX3_parseOrder_19 (fun r5 M4 h => ?_)
  refine ra_istore_n (L' := [(3, _), (2, _), (0, _), (1, _)]) E dX3_parseOrder_22 rfl (by decide) rfl ?_
  refine ra_aload_n E dX3_parseOrder_23 rfl 2 rfl ?_
  refine ra_iconst E dX3_parseOrder_24 ki_1 ?_
  refine ra_bipush E dX3_parseOrder_25 kb_6 ?_
  refine ra_callIV (rest := []) E (c_X10_readNumber _ _ _ _ h) (lq_X10 _) cv_X10_readNumber ml_X3_17 (by decide) (lm (by decide)) (fun R => ⟨_, cel_1 tc ad R⟩) rfl rfl rfl (Nat.le_of_ble_eq_true rfl) ⟨Nat.le_of_ble_eq_true rfl, Nat.le_of_ble_eq_true rfl⟩ ⟨Nat.zero_le _, Nat.zero_le _⟩ dX3_parseOrder_27 (fun r7 M6 h => ?_)
  refine ra_istore (L' := [(4, _), (3, _), (2, _), (0, _), (1, _)]) E dX3_parseOrder_30 (by decide) rfl ?_
  refine ra_aload_n E dX3_parseOrder_32 rfl 3 rfl ?_
  refine ra_iconst E dX3_parseOrder_33 ki_1 ?_
  refine ra_sipush E dX3_parseOrder_34 ks_500 ?_
  refine ra_callIV (rest := []) E (c_X10_readNumber _ _ _ _ h) (lq_X10 _) cv_X10_readNumber ml_X3_17 (by decide) (lm (by decide)) (fun R => ⟨_, cel_1 tc ad R⟩) rfl rfl rfl (Nat.le_of_ble_eq_true rfl) ⟨Nat.le_of_ble_eq_true rfl, Nat.le_of_ble_eq_true rfl⟩ ⟨Nat.zero_le _, Nat.zero_le _⟩ dX3_parseOrder_37 (fun r9 M8 h => ?_)
  refine ra_istore (L' := [(5, _), (4, _), (3, _), (2, _), (0, _), (1, _)]) E dX3_parseOrder_40 (by decide) rfl ?_
  refine ra_aload_n E dX3_parseOrder_42 rfl 4 rfl ?_
  refine ra_iconst E dX3_parseOrder_43 ki_5 ?_
  refine ra_callVV (rest := []) E (c_X10_readToken _ _ _ h) (lq_X10 _) cv_X10_readToken ml_X3_27 (by decide) (lm (by decide)) (fun R => ⟨_, cel_1 tc ad R⟩) rfl rfl rfl (Nat.le_of_ble_eq_true rfl) ⟨Nat.le_of_ble_eq_true rfl, Nat.le_of_ble_eq_true rfl⟩ ⟨Nat.zero_le _, Nat.zero_le _⟩ dX3_parseOrder_44 (fun M10 h => ?_)
  refine ra_aload_n E dX3_parseOrder_47 rfl 5 rfl ?_
  refine ra_iload_n E dX3_parseOrder_48 rfl 3 rfl ?_
  refine ra_iload_n E dX3_parseOrder_49 rfl 2 rfl ?_
  refine ra_iload E dX3_parseOrder_50 1 rfl ?_
  refine ra_iload E dX3_parseOrder_52 0 rfl ?_
  refine ra_callVV (rest := []) E (c_X2_addOrder _ h1 _ _ _ _ _ _ h) (lq_X2 _) cv_X2_addOrder ml_X3_103 (by decide) (lm (h1.add (j := 0) (by decide))) (fun R => ⟨_, cel_canal tc ad h1 R⟩) rfl rfl rfl (Nat.le_of_ble_eq_true rfl) ⟨Nat.le_of_ble_eq_true rfl, Nat.le_of_ble_eq_true rfl⟩ ⟨Nat.zero_le _, Nat.zero_le _⟩ dX3_parseOrder_54 (fun M11 h => ?_)
  exact ra_vret E hr dX3_parseOrder_57 h
def f_X10_begin (p1 : Int32) (M : TM) (K : TM → Prop) : Prop := ∀ M1, M1 = u2 M 1 2 (if (500 : Int32) < p1 then (500 : Int32) else p1) → ∀ M2, M2 = u2 M1 1 5 (0 : Int32) → ∀ M3, M3 = u2 M2 1 6 (0 : Int32) → ∀ M4, M4 = u2 M3 1 7 (-1 : Int32) → f_X10_advance M4 (fun M5 => K M5)
set_option maxRecDepth 100000 in
set_option maxHeartbeats 4000000 in
theorem c_X10_begin {ad : Nat → Nat} (p1 : Int32) (M : TM) (K : TM → Prop) (h : f_X10_begin p1 M K) : MV yX10_begin cX10_begin 2 2 ad [.ref (ad 1), .int p1] M K := by
  refine MV_of RX10 rfl (by decide +kernel) (Nat.le_of_ble_eq_true rfl) (fun p l e s m below meth c D tc E hr => ?_)
  unfold f_X10_begin at h
  refine ra_aload_n E dX10_begin_0 rfl 0 rfl ?_
  refine ra_iload_n E dX10_begin_1 rfl 1 rfl ?_
  refine ra_aload_n E dX10_begin_2 rfl 0 rfl ?_
  refine gf_X10_0 E fl_X10_9 dX10_begin_3 ?_
  refine ra_alen (n := 500) (v := 500) E (lm (by decide)) (fun R => ⟨_, (cel_2 tc ad) R, rfl⟩) rfl (by decide) dX10_begin_6 ?_
  refine ra_mmin E ml_X10_50 ⟨Nat.le_of_ble_eq_true rfl, Nat.le_of_ble_eq_true rfl⟩ ⟨Nat.zero_le _, Nat.zero_le _⟩ dX10_begin_7 ?_
  refine pf_X10_2 E fl_X10_19 dX10_begin_10 ?_
  replace h := h _ rfl
  refine ra_aload_n E dX10_begin_13 rfl 0 rfl ?_
  refine ra_iconst E dX10_begin_14 ki_0 ?_
  refine pf_X10_5 E fl_X10_28 dX10_begin_15 ?_
  replace h := h _ rfl
  refine ra_aload_n E dX10_begin_18 rfl 0 rfl ?_
  refine ra_iconst E dX10_begin_19 ki_0 ?_
  refine pf_X10_6 E fl_X10_31 dX10_begin_20 ?_
  replace h := h _ rfl
  refine ra_aload_n E dX10_begin_23 rfl 0 rfl ?_
  refine ra_iconst E dX10_begin_24 ki_m1 ?_
  refine pf_X10_7 E fl_X10_34 dX10_begin_25 ?_
  replace h := h _ rfl
  refine ra_aload_n E dX10_begin_28 rfl 0 rfl ?_
  refine ra_callVV (rest := []) E (c_X10_advance _ _ h) (lq_X10 _) cv_X10_advance ml_X10_56 (by decide) (lm (by decide)) (fun R => ⟨_, cel_1 tc ad R⟩) rfl rfl rfl (Nat.le_of_ble_eq_true rfl) ⟨Nat.le_of_ble_eq_true rfl, Nat.le_of_ble_eq_true rfl⟩ ⟨Nat.zero_le _, Nat.zero_le _⟩ dX10_begin_29 (fun M5 h => ?_)
  exact ra_vret E hr dX10_begin_32 h
def f_X2_passAtMost_L2 (a0 : Nat) (p1 : Int32) (K : TM → Prop) : Nat → Int32 → Int32 → TM → Prop
  | 0, _, _, _ => False
  | n + 1, x1, x2, M => ((x1 ≤ x2 → K M) ∧ (¬ x1 ≤ x2 → f_X2_canPass a0 (1 : Int32) M (fun r3 M2 => ((r3 = 0 → K M2) ∧ (¬ r3 = 0 → f_X2_moveBarges a0 M2 (fun M6 => f_X2_pullNoodles a0 M6 (fun M7 => f_X2_serveOrders a0 M7 (fun M8 => f_X2_expireOrders a0 M8 (fun M9 => ∀ M10, M10 = u2 M9 a0 8 ((M9 a0 8) + (1 : Int32)) → f_X2_passAtMost_L2 a0 p1 K n x1 (x2 + 1) M10)))))))))
set_option maxRecDepth 100000 in
set_option maxHeartbeats 4000000 in
theorem l_X2_passAtMost_L2 {p : Program} {l : Launch} {e : Env} {s : State} {m : MethodId} {args : Array Value} {below : List Frame} {meth : Method} {c : Code} {D : va_G} {tc : Nat → ClassId} {ad : Nat → Nat} (a0 : Nat) (h0 : IsCanal a0) (p1 : Int32) {K : TM → Prop} (E : Ev p s m args meth c D tc ad RX2 cX2_passAtMost 3) (hr : meth.sig.returnType = none) : ∀ (n : Nat) (x1 : Int32) (x2 : Int32) (M : TM) , f_X2_passAtMost_L2 a0 p1 K n x1 x2 M → Wa p l e (rmD 3) s m args below meth c 0 0 (MQ below (va_Qv K (EndW D tc ad) (A0 ad s.heap.size)) args s 0 0 (A0 ad s.heap.size)) D tc ad 3 M 2 [(0, .ref (ad a0)), (1, .int x1), (2, .int x2)] [] := by
  intro n
  induction n with
  | zero => intro x1 x2 M  h; exact h.elim
  | succ n ih =>
    intro x1 x2 M  h
    unfold f_X2_passAtMost_L2 at h
    refine ra_iload_n E dX2_passAtMost_2 rfl 2 rfl ?_
    refine ra_iload_n E dX2_passAtMost_3 rfl 1 rfl ?_
    refine ra_icmp_ge (tgt := 47) E dX2_passAtMost_4 (by decide) (fun q1 => ?_) (fun q1 => ?_)
    · replace h := h.1 q1
      exact ra_vret E hr dX2_passAtMost_47 h
    · replace h := h.2 q1
      refine ra_aload_n E dX2_passAtMost_7 rfl 0 rfl ?_
      refine ra_iconst E dX2_passAtMost_8 ki_1 ?_
      refine ra_callIV (rest := []) E (c_X2_canPass _ h0 _ _ _ h) (lq_X2 _) cv_X2_canPass ml_X2_225 (by decide) (lm (h0.add (j := 0) (by decide))) (fun R => ⟨_, cel_canal tc ad h0 R⟩) rfl rfl rfl (Nat.le_of_ble_eq_true rfl) ⟨Nat.le_of_ble_eq_true rfl, Nat.le_of_ble_eq_true rfl⟩ ⟨Nat.zero_le _, Nat.zero_le _⟩ dX2_passAtMost_9 (fun r3 M2 h => ?_)
      obtain ⟨b4, h⟩ := h
      refine ra_if_eq (tgt := 47) E dX2_passAtMost_12 (by decide) (fun q5 => ?_) (fun q5 => ?_)
      · replace h := h.1 q5
        exact ra_vret E hr dX2_passAtMost_47 h
      · replace h := h.2 q5
        refine ra_aload_n E dX2_passAtMost_15 rfl 0 rfl ?_
        refine ra_callVV (rest := []) E (c_X2_moveBarges _ h0 _ _ h) (lq_X2 _) cv_X2_moveBarges ml_X2_228 (by decide) (lm (h0.add (j := 0) (by decide))) (fun R => ⟨_, cel_canal tc ad h0 R⟩) rfl rfl rfl (Nat.le_of_ble_eq_true rfl) ⟨Nat.le_of_ble_eq_true rfl, Nat.le_of_ble_eq_true rfl⟩ ⟨Nat.zero_le _, Nat.zero_le _⟩ dX2_passAtMost_16 (fun M6 h => ?_)
        refine ra_aload_n E dX2_passAtMost_19 rfl 0 rfl ?_
        refine ra_callVV (rest := []) E (c_X2_pullNoodles _ h0 _ _ h) (lq_X2 _) cv_X2_pullNoodles ml_X2_231 (by decide) (lm (h0.add (j := 0) (by decide))) (fun R => ⟨_, cel_canal tc ad h0 R⟩) rfl rfl rfl (Nat.le_of_ble_eq_true rfl) ⟨Nat.le_of_ble_eq_true rfl, Nat.le_of_ble_eq_true rfl⟩ ⟨Nat.zero_le _, Nat.zero_le _⟩ dX2_passAtMost_20 (fun M7 h => ?_)
        refine ra_aload_n E dX2_passAtMost_23 rfl 0 rfl ?_
        refine ra_callVV (rest := []) E (c_X2_serveOrders _ h0 _ _ h) (lq_X2 _) cv_X2_serveOrders ml_X2_234 (by decide) (lm (h0.add (j := 0) (by decide))) (fun R => ⟨_, cel_canal tc ad h0 R⟩) rfl rfl rfl (Nat.le_of_ble_eq_true rfl) ⟨Nat.le_of_ble_eq_true rfl, Nat.le_of_ble_eq_true rfl⟩ ⟨Nat.zero_le _, Nat.zero_le _⟩ dX2_passAtMost_24 (fun M8 h => ?_)
        refine ra_aload_n E dX2_passAtMost_27 rfl 0 rfl ?_
        refine ra_callVV (rest := []) E (c_X2_expireOrders _ h0 _ _ h) (lq_X2 _) cv_X2_expireOrders ml_X2_237 (by decide) (lm (h0.add (j := 0) (by decide))) (fun R => ⟨_, cel_canal tc ad h0 R⟩) rfl rfl rfl (Nat.le_of_ble_eq_true rfl) ⟨Nat.le_of_ble_eq_true rfl, Nat.le_of_ble_eq_true rfl⟩ ⟨Nat.zero_le _, Nat.zero_le _⟩ dX2_passAtMost_28 (fun M9 h => ?_)
        refine ra_aload_n E dX2_passAtMost_31 rfl 0 rfl ?_
        refine ra_dup E dX2_passAtMost_32 rfl ?_
        refine gf_X2_8 E h0 fl_X2_46 dX2_passAtMost_33 ?_
        refine ra_iconst E dX2_passAtMost_36 ki_1 ?_
        refine ra_iadd E dX2_passAtMost_37 ?_
        refine pf_X2_8 E h0 fl_X2_46 dX2_passAtMost_38 ?_
        replace h := h _ rfl
        refine ra_iinc1 (L' := [(2, _), (0, _), (1, _)]) E dX2_passAtMost_41 2 rfl (by decide) rfl ?_
        refine ra_goto (tgt := 2) E dX2_passAtMost_44 (by decide) ?_
        exact ra_sub (L' := [(0, _), (1, _), (2, _)]) [1, 2, 0] rfl (ih _ _ _ h)
def f_X2_passAtMost (a0 : Nat) (p1 : Int32) (M : TM) (K : TM → Prop) : Prop := ∃ n, f_X2_passAtMost_L2 a0 p1 K n p1 (0 : Int32) M
set_option maxRecDepth 100000 in
set_option maxHeartbeats 4000000 in
theorem c_X2_passAtMost {ad : Nat → Nat} (a0 : Nat) (h0 : IsCanal a0) (p1 : Int32) (M : TM) (K : TM → Prop) (h : f_X2_passAtMost a0 p1 M K) : MV yX2_passAtMost cX2_passAtMost 3 3 ad [.ref (ad a0), .int p1] M K := by
  refine MV_of RX2 rfl (by decide +kernel) (Nat.le_of_ble_eq_true rfl) (fun p l e s m below meth c D tc E hr => ?_)
  unfold f_X2_passAtMost at h
  refine ra_iconst E dX2_passAtMost_0 ki_0 ?_
  refine ra_istore_n (L' := [(2, _), (0, _), (1, _)]) E dX2_passAtMost_1 rfl (by decide) rfl ?_
  obtain ⟨n11, h⟩ := h
  exact ra_sub (L' := [(0, _), (1, _), (2, _)]) [1, 2, 0] rfl (l_X2_passAtMost_L2 a0 h0 p1 E hr n11 _ _ _ h)
