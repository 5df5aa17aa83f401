def f_X2_serveOrders_L2 (a0 : Nat) (K : TM → Prop) : Nat → Int32 → TM → Prop
  | 0, _, _ => False
  | n + 1, x1, M => (((M a0 6) ≤ x1 → K M) ∧ (¬ (M a0 6) ≤ x1 → vp_in x1 30 ∧ vp_in x1 30 ∧ vp_in (M (a0 + 31 + x1.toNatClampNeg) 6) 5 ∧ ((¬ (M (a0 + 31 + x1.toNatClampNeg) 6) = (2 : Int32) → f_X2_serveOrders_L2 a0 K n (x1 + 1) M) ∧ ((M (a0 + 31 + x1.toNatClampNeg) 6) = (2 : Int32) → f_X2_hasBarge a0 (M (a0 + 31 + x1.toNatClampNeg) 7) M (fun r7 M6 => ((r7 = 0 → f_X2_serveOrders_L2 a0 K n (x1 + 1) M6) ∧ (¬ r7 = 0 → vp_in (M (a0 + 31 + x1.toNatClampNeg) 7) 5 ∧ vp_in x1 30 ∧ f_X2_serve a0 (a0 + 21 + 2 * (M (a0 + 31 + x1.toNatClampNeg) 7).toNatClampNeg) (a0 + 31 + x1.toNatClampNeg) M6 (fun M12 => f_X2_serveOrders_L2 a0 K n (x1 + 1) M12))))))))
set_option maxRecDepth 100000 in
set_option maxHeartbeats 4000000 in
theorem l_X2_serveOrders_L2 {p : Program} {l : Launch} {e : Env} {s : State} {m : MethodId} {args : Array Value} {below : List Frame} {meth : Method} {c : Code} {D : va_G} {tc : Nat → ClassId} {ad : Nat → Nat} (a0 : Nat) (h0 : IsCanal a0) {K : TM → Prop} (E : Ev p s m args meth c D tc ad RX2 cX2_serveOrders 3) (hr : meth.sig.returnType = none) : ∀ (n : Nat) (x1 : Int32) (M : TM) , f_X2_serveOrders_L2 a0 K n x1 M → Wa p l e (rmD 2) s m args below meth c 0 0 (MQ below (va_Qv K (EndW D tc ad) (A0 ad s.heap.size)) args s 0 0 (A0 ad s.heap.size)) D tc ad 3 M 2 [(0, .ref (ad a0)), (1, .int x1)] [] := by
  intro n
  induction n with
  | zero => intro x1 M  h; exact h.elim
  | succ n ih =>
    intro x1 M  h
    unfold f_X2_serveOrders_L2 at h
    refine ra_iload_n E dX2_serveOrders_2 rfl 1 rfl ?_
    refine ra_aload_n E dX2_serveOrders_3 rfl 0 rfl ?_
    refine gf_X2_6 E h0 fl_X2_37 dX2_serveOrders_4 ?_
    refine ra_icmp_ge (tgt := 65) E dX2_serveOrders_7 (by decide) (fun q1 => ?_) (fun q1 => ?_)
    · replace h := h.1 q1
      exact ra_vret E hr dX2_serveOrders_65 h
    · replace h := h.2 q1
      refine ra_aload_n E dX2_serveOrders_10 rfl 0 rfl ?_
      refine gf_X2_7 E h0 fl_X2_42 dX2_serveOrders_11 ?_
      refine ra_iload_n E dX2_serveOrders_14 rfl 1 rfl ?_
      obtain ⟨g2, h⟩ := h
      refine ra_aald E (lm (h0.add (by decide))) (cel_ords tc ad h0) rfl g2 dX2_serveOrders_15 ?_
      refine gf_X6_7 E (isOrder_of h0 g2) fl_X2_109 dX2_serveOrders_16 ?_
      refine ra_istore_n (L' := [(2, _), (0, _), (1, _)]) E dX2_serveOrders_19 rfl (by decide) rfl ?_
      refine ra_aload_n E dX2_serveOrders_20 rfl 1 rfl ?_
      refine gf_X2_7 E h0 fl_X2_42 dX2_serveOrders_21 ?_
      refine ra_iload_n E dX2_serveOrders_24 rfl 2 rfl ?_
      obtain ⟨g3, h⟩ := h
      refine ra_aald E (lm (h0.add (by decide))) (cel_ords tc ad h0) rfl g3 dX2_serveOrders_25 ?_
      refine gf_X6_6 E (isOrder_of h0 g3) fl_X2_132 dX2_serveOrders_26 ?_
      refine gs_O (i := 2) E 2 (by decide) rfl (by decide) fl_X2_257 dX2_serveOrders_29 ?_
      obtain ⟨g5, h⟩ := h
      refine acmpO_ne (tgt := 59) E g5 (vpl _ _ (by decide)) dX2_serveOrders_32 (by decide) (fun q4 => ?_) (fun q4 => ?_)
      · replace h := h.1 q4
        refine ra_iinc1 (L' := [(1, _), (2, _), (0, _)]) E dX2_serveOrders_59 2 rfl (by decide) rfl ?_
        refine ra_goto (tgt := 2) E dX2_serveOrders_62 (by decide) ?_
        exact ra_sub (L' := [(0, _), (1, _)]) [2, 0] rfl (ih _ _ h)
      · replace h := h.2 q4
        refine ra_aload_n E dX2_serveOrders_35 rfl 1 rfl ?_
        refine ra_iload_n E dX2_serveOrders_36 rfl 0 rfl ?_
        refine ra_callIV (rest := []) E (c_X2_hasBarge _ h0 _ _ _ h) (lq_X2 _) cv_X2_hasBarge ml_X2_162 (by decide) (lm (h0.add (j := 0) (by decide))) (fun R => ⟨_, cel_canal tc ad h0 R⟩) rfl rfl rfl (Nat.le_of_ble_eq_true rfl) ⟨Nat.le_of_ble_eq_true rfl, Nat.le_of_ble_eq_true rfl⟩ ⟨Nat.zero_le _, Nat.zero_le _⟩ dX2_serveOrders_37 (fun r7 M6 h => ?_)
        obtain ⟨b8, h⟩ := h
        refine ra_if_eq (tgt := 59) E dX2_serveOrders_40 (by decide) (fun q9 => ?_) (fun q9 => ?_)
        · replace h := h.1 q9
          refine ra_iinc1 (L' := [(1, _), (2, _), (0, _)]) E dX2_serveOrders_59 2 rfl (by decide) rfl ?_
          refine ra_goto (tgt := 2) E dX2_serveOrders_62 (by decide) ?_
          exact ra_sub (L' := [(0, _), (1, _)]) [2, 0] rfl (ih _ _ h)
        · replace h := h.2 q9
          refine ra_aload_n E dX2_serveOrders_43 rfl 1 rfl ?_
          refine ra_aload_n E dX2_serveOrders_44 rfl 1 rfl ?_
          refine gf_X2_5 E h0 fl_X2_33 dX2_serveOrders_45 ?_
          refine ra_iload_n E dX2_serveOrders_48 rfl 0 rfl ?_
          obtain ⟨g10, h⟩ := h
          refine ra_aald E (lm (h0.add (by decide))) (cel_bars tc ad h0) rfl g10 dX2_serveOrders_49 ?_
          refine ra_aload_n E dX2_serveOrders_50 rfl 1 rfl ?_
          refine gf_X2_7 E h0 fl_X2_42 dX2_serveOrders_51 ?_
          refine ra_iload_n E dX2_serveOrders_54 rfl 2 rfl ?_
          obtain ⟨g11, h⟩ := h
          refine ra_aald E (lm (h0.add (by decide))) (cel_ords tc ad h0) rfl g11 dX2_serveOrders_55 ?_
          refine ra_callVV (rest := []) E (c_X2_serve _ h0 _ (isBarge_of h0 g10) _ (isOrder_of h0 g11) _ _ h) (lq_X2 _) cv_X2_serve ml_X2_260 (by decide) (lm (h0.add (j := 0) (by decide))) (fun R => ⟨_, cel_canal tc ad h0 R⟩) rfl rfl rfl (Nat.le_of_ble_eq_true rfl) ⟨Nat.le_of_ble_eq_true rfl, Nat.le_of_ble_eq_true rfl⟩ ⟨Nat.zero_le _, Nat.zero_le _⟩ dX2_serveOrders_56 (fun M12 h => ?_)
          refine ra_iinc1 (L' := [(1, _), (2, _), (0, _)]) E dX2_serveOrders_59 2 rfl (by decide) rfl ?_
          refine ra_goto (tgt := 2) E dX2_serveOrders_62 (by decide) ?_
          exact ra_sub (L' := [(0, _), (1, _)]) [2, 0] rfl (ih _ _ h)
def f_X2_serveOrders (a0 : Nat) (M : TM) (K : TM → Prop) : Prop := ∃ n, f_X2_serveOrders_L2 a0 K n (0 : Int32) M
set_option maxRecDepth 100000 in
set_option maxHeartbeats 4000000 in
theorem c_X2_serveOrders {ad : Nat → Nat} (a0 : Nat) (h0 : IsCanal a0) (M : TM) (K : TM → Prop) (h : f_X2_serveOrders a0 M K) : MV yX2_serveOrders cX2_serveOrders 3 2 ad [.ref (ad a0)] M K := by
  refine MV_of RX2 rfl (by decide +kernel) (Nat.le_of_ble_eq_true rfl) (fun p l e s m below meth c D tc E hr => ?_)
  unfold f_X2_serveOrders at h
  refine ra_iconst E dX2_serveOrders_0 ki_0 ?_
  refine ra_istore_n (L' := [(1, _), (0, _)]) E dX2_serveOrders_1 rfl (by decide) rfl ?_
  obtain ⟨n13, h⟩ := h
  exact ra_sub (L' := [(0, _), (1, _)]) [1, 0] rfl (l_X2_serveOrders_L2 a0 h0 E hr n13 _ _ h)
def f_X3_parseLock_L47 (a1 : Nat) (K : TM → Prop) (x3 : Int32) (M : TM) : Prop := vp_in x3 15 ∧ f_X10_readNumber (1 : Int32) (9 : Int32) M (fun r13 M12 => ∀ M14, M14 = u2 M12 (a1 + 6 + x3.toNatClampNeg) 0 r13 → f_X10_readToken (5 : Int32) M14 (fun M15 => K M15))
set_option maxRecDepth 100000 in
set_option maxHeartbeats 4000000 in
theorem l_X3_parseLock_L47 {p : Program} {l : Launch} {e : Env} {s : State} {m : MethodId} {args : Array Value} {below : List Frame} {meth : Method} {c : Code} {D : va_G} {tc : Nat → ClassId} {ad : Nat → Nat} (a1 : Nat) (h1 : IsCanal a1) {K : TM → Prop} (E : Ev p s m args meth c D tc ad RX3 cX3_parseLock 4) (hr : meth.sig.returnType = none) : ∀ (x3 : Int32) (M : TM) , f_X3_parseLock_L47 a1 K x3 M → Wa p l e (rmD 3) s m args below meth c 0 0 (MQ below (va_Qv K (EndW D tc ad) (A0 ad s.heap.size)) args s 0 0 (A0 ad s.heap.size)) D tc ad 4 M 47 [(0, .ref (ad 1)), (1, .ref (ad a1)), (3, .int x3)] [] := by
  intro x3 M  h
  unfold f_X3_parseLock_L47 at h
  refine ra_aload_n E dX3_parseLock_47 rfl 1 rfl ?_
  refine gf_X2_1 E h1 fl_X3_70 dX3_parseLock_48 ?_
  refine ra_iload_n E dX3_parseLock_51 rfl 2 rfl ?_
  obtain ⟨g11, h⟩ := h
  refine ra_aald E (lm (h1.add (by decide))) (cel_secs tc ad h1) rfl g11 dX3_parseLock_52 ?_
  refine ra_aload_n E dX3_parseLock_53 rfl 0 rfl ?_
  refine ra_iconst E dX3_parseLock_54 ki_1 ?_
  refine ra_bipush E dX3_parseLock_55 kb_9 ?_
  refine ra_callIV (rest := [_]) E (c_X10_readNumber _ _ _ _ h) (lq_X10 _) cv_X10_readNumber ml_X3_17 (by decide) (lm (by decide)) (fun R => ⟨_, cel_1 tc ad R⟩) rfl rfl rfl (Nat.le_of_ble_eq_true rfl) ⟨Nat.le_of_ble_eq_true rfl, Nat.le_of_ble_eq_true rfl⟩ ⟨Nat.zero_le _, Nat.zero_le _⟩ dX3_parseLock_57 (fun r13 M12 h => ?_)
  refine pf_X9_0 E (isSec_of h1 g11) fl_X3_74 dX3_parseLock_60 ?_
  replace h := h _ rfl
  refine ra_aload_n E dX3_parseLock_63 rfl 0 rfl ?_
  refine ra_iconst E dX3_parseLock_64 ki_5 ?_
  refine ra_callVV (rest := []) E (c_X10_readToken _ _ _ h) (lq_X10 _) cv_X10_readToken ml_X3_27 (by decide) (lm (by decide)) (fun R => ⟨_, cel_1 tc ad R⟩) rfl rfl rfl (Nat.le_of_ble_eq_true rfl) ⟨Nat.le_of_ble_eq_true rfl, Nat.le_of_ble_eq_true rfl⟩ ⟨Nat.zero_le _, Nat.zero_le _⟩ dX3_parseLock_65 (fun M15 h => ?_)
  exact ra_vret E hr dX3_parseLock_68 h
def f_X3_parseLock (a1 : Nat) (M : TM) (K : TM → Prop) : Prop := f_X10_advance M (fun M1 => f_X10_readNumber (0 : Int32) ((M1 a1 0) - (2 : Int32)) M1 (fun r3 M2 => f_X2_hasSection a1 r3 M2 (fun r5 M4 => ((r5 = 0 → f_X10_readToken (5 : Int32) M4 (fun M8 => K M8)) ∧ (¬ r5 = 0 → vp_in r3 15 ∧ (((M4 (a1 + 6 + r3.toNatClampNeg) 0) ≤ 0 → f_X3_parseLock_L47 a1 K r3 M4) ∧ (¬ (M4 (a1 + 6 + r3.toNatClampNeg) 0) ≤ 0 → f_X10_failAt (3 : Int32) (M1 1 4) M4 (fun M16 => f_X3_parseLock_L47 a1 K r3 M16))))))))
set_option maxRecDepth 100000 in
set_option maxHeartbeats 4000000 in
theorem c_X3_parseLock {ad : Nat → Nat} (a1 : Nat) (h1 : IsCanal a1) (M : TM) (K : TM → Prop) (h : f_X3_parseLock a1 M K) : MV yX3_parseLock cX3_parseLock 4 3 ad [.ref (ad 1), .ref (ad a1)] M K := by
  refine MV_of RX3 rfl (by decide +kernel) (Nat.le_of_ble_eq_true rfl) (fun p l e s m below meth c D tc E hr => ?_)
  unfold f_X3_parseLock at h
  refine ra_aload_n E dX3_parseLock_0 rfl 0 rfl ?_
  refine ra_callVV (rest := []) E (c_X10_advance _ _ h) (lq_X10 _) cv_X10_advance ml_X3_56 (by decide) (lm (by decide)) (fun R => ⟨_, cel_1 tc ad R⟩) rfl rfl rfl (Nat.le_of_ble_eq_true rfl) ⟨Nat.le_of_ble_eq_true rfl, Nat.le_of_ble_eq_true rfl⟩ ⟨Nat.zero_le _, Nat.zero_le _⟩ dX3_parseLock_1 (fun M1 h => ?_)
  refine ra_aload_n E dX3_parseLock_4 rfl 0 rfl ?_
  refine gf_X10_4 E fl_X3_59 dX3_parseLock_5 ?_
  refine ra_istore_n (L' := [(2, _), (0, _), (1, _)]) E dX3_parseLock_8 rfl (by decide) rfl ?_
  refine ra_aload_n E dX3_parseLock_9 rfl 1 rfl ?_
  refine ra_iconst E dX3_parseLock_10 ki_0 ?_
  refine ra_aload_n E dX3_parseLock_11 rfl 2 rfl ?_
  refine gf_X2_0 E h1 fl_X3_63 dX3_parseLock_12 ?_
  refine ra_iconst E dX3_parseLock_15 ki_2 ?_
  refine ra_isub E dX3_parseLock_16 ?_
  refine ra_callIV (rest := []) E (c_X10_readNumber _ _ _ _ h) (lq_X10 _) cv_X10_readNumber ml_X3_17 (by decide) (lm (by decide)) (fun R => ⟨_, cel_1 tc ad R⟩) rfl rfl rfl (Nat.le_of_ble_eq_true rfl) ⟨Nat.le_of_ble_eq_true rfl, Nat.le_of_ble_eq_true rfl⟩ ⟨Nat.zero_le _, Nat.zero_le _⟩ dX3_parseLock_17 (fun r3 M2 h => ?_)
  refine ra_istore_n (L' := [(3, _), (2, _), (0, _), (1, _)]) E dX3_parseLock_20 rfl (by decide) rfl ?_
  refine ra_aload_n E dX3_parseLock_21 rfl 3 rfl ?_
  refine ra_iload_n E dX3_parseLock_22 rfl 0 rfl ?_
  refine ra_callIV (rest := []) E (c_X2_hasSection _ h1 _ _ _ h) (lq_X2 _) cv_X2_hasSection ml_X3_66 (by decide) (lm (h1.add (j := 0) (by decide))) (fun R => ⟨_, cel_canal tc ad h1 R⟩) rfl rfl rfl (Nat.le_of_ble_eq_true rfl) ⟨Nat.le_of_ble_eq_true rfl, Nat.le_of_ble_eq_true rfl⟩ ⟨Nat.zero_le _, Nat.zero_le _⟩ dX3_parseLock_23 (fun r5 M4 h => ?_)
  obtain ⟨b6, h⟩ := h
  refine ra_if_eq (tgt := 63) E dX3_parseLock_26 (by decide) (fun q7 => ?_) (fun q7 => ?_)
  · replace h := h.1 q7
    refine ra_aload_n E dX3_parseLock_63 rfl 2 rfl ?_
    refine ra_iconst E dX3_parseLock_64 ki_5 ?_
    refine ra_callVV (rest := []) E (c_X10_readToken _ _ _ h) (lq_X10 _) cv_X10_readToken ml_X3_27 (by decide) (lm (by decide)) (fun R => ⟨_, cel_1 tc ad R⟩) rfl rfl rfl (Nat.le_of_ble_eq_true rfl) ⟨Nat.le_of_ble_eq_true rfl, Nat.le_of_ble_eq_true rfl⟩ ⟨Nat.zero_le _, Nat.zero_le _⟩ dX3_parseLock_65 (fun M8 h => ?_)
    exact ra_vret E hr dX3_parseLock_68 h
  · replace h := h.2 q7
    refine ra_aload_n E dX3_parseLock_29 rfl 3 rfl ?_
    refine gf_X2_1 E h1 fl_X3_70 dX3_parseLock_30 ?_
    refine ra_iload_n E dX3_parseLock_33 rfl 0 rfl ?_
    obtain ⟨g9, h⟩ := h
    refine ra_aald E (lm (h1.add (by decide))) (cel_secs tc ad h1) rfl g9 dX3_parseLock_34 ?_
    refine gf_X9_0 E (isSec_of h1 g9) fl_X3_74 dX3_parseLock_35 ?_
    refine ra_if_le (tgt := 47) E dX3_parseLock_38 (by decide) (fun q10 => ?_) (fun q10 => ?_)
    · replace h := h.1 q10
      exact ra_sub (L' := [(0, _), (1, _), (3, _)]) [2, 3, 0] rfl (l_X3_parseLock_L47 a1 h1 E hr _ _ h)
    · replace h := h.2 q10
      refine ra_aload_n E dX3_parseLock_41 rfl 2 rfl ?_
      refine ra_iconst E dX3_parseLock_42 ki_3 ?_
      refine ra_iload_n E dX3_parseLock_43 rfl 1 rfl ?_
      refine ra_callVV (rest := []) E (c_X10_failAt _ _ _ _ h) (lq_X10 _) cv_X10_failAt ml_X3_79 (by decide) (lm (by decide)) (fun R => ⟨_, cel_1 tc ad R⟩) rfl rfl rfl (Nat.le_of_ble_eq_true rfl) ⟨Nat.le_of_ble_eq_true rfl, Nat.le_of_ble_eq_true rfl⟩ ⟨Nat.zero_le _, Nat.zero_le _⟩ dX3_parseLock_44 (fun M16 h => ?_)
      exact ra_sub (L' := [(0, _), (1, _), (3, _)]) [2, 3, 0] rfl (l_X3_parseLock_L47 a1 h1 E hr _ _ h)
def f_X3_parseBridge_L47 (a1 : Nat) (K : TM → Prop) (x3 : Int32) (M : TM) : Prop := vp_in x3 15 ∧ f_X10_readNumber (1 : Int32) (9 : Int32) M (fun r13 M12 => ∀ M14, M14 = u2 M12 (a1 + 6 + x3.toNatClampNeg) 1 r13 → f_X10_readToken (5 : Int32) M14 (fun M15 => K M15))
set_option maxRecDepth 100000 in
set_option maxHeartbeats 4000000 in
theorem l_X3_parseBridge_L47 {p : Program} {l : Launch} {e : Env} {s : State} {m : MethodId} {args : Array Value} {below : List Frame} {meth : Method} {c : Code} {D : va_G} {tc : Nat → ClassId} {ad : Nat → Nat} (a1 : Nat) (h1 : IsCanal a1) {K : TM → Prop} (E : Ev p s m args meth c D tc ad RX3 cX3_parseBridge 4) (hr : meth.sig.returnType = none) : ∀ (x3 : Int32) (M : TM) , f_X3_parseBridge_L47 a1 K x3 M → Wa p l e (rmD 3) s m args below meth c 0 0 (MQ below (va_Qv K (EndW D tc ad) (A0 ad s.heap.size)) args s 0 0 (A0 ad s.heap.size)) D tc ad 4 M 47 [(0, .ref (ad 1)), (1, .ref (ad a1)), (3, .int x3)] [] := by
  intro x3 M  h
  unfold f_X3_parseBridge_L47 at h
  refine ra_aload_n E dX3_parseBridge_47 rfl 1 rfl ?_
  refine gf_X2_1 E h1 fl_X3_70 dX3_parseBridge_48 ?_
  refine ra_iload_n E dX3_parseBridge_51 rfl 2 rfl ?_
  obtain ⟨g11, h⟩ := h
  refine ra_aald E (lm (h1.add (by decide))) (cel_secs tc ad h1) rfl g11 dX3_parseBridge_52 ?_
  refine ra_aload_n E dX3_parseBridge_53 rfl 0 rfl ?_
  refine ra_iconst E dX3_parseBridge_54 ki_1 ?_
  refine ra_bipush E dX3_parseBridge_55 kb_9 ?_
  refine ra_callIV (rest := [_]) E (c_X10_readNumber _ _ _ _ h) (lq_X10 _) cv_X10_readNumber ml_X3_17 (by decide) (lm (by decide)) (fun R => ⟨_, cel_1 tc ad R⟩) rfl rfl rfl (Nat.le_of_ble_eq_true rfl) ⟨Nat.le_of_ble_eq_true rfl, Nat.le_of_ble_eq_true rfl⟩ ⟨Nat.zero_le _, Nat.zero_le _⟩ dX3_parseBridge_57 (fun r13 M12 h => ?_)
  refine pf_X9_1 E (isSec_of h1 g11) fl_X3_83 dX3_parseBridge_60 ?_
  replace h := h _ rfl
  refine ra_aload_n E dX3_parseBridge_63 rfl 0 rfl ?_
  refine ra_iconst E dX3_parseBridge_64 ki_5 ?_
  refine ra_callVV (rest := []) E (c_X10_readToken _ _ _ h) (lq_X10 _) cv_X10_readToken ml_X3_27 (by decide) (lm (by decide)) (fun R => ⟨_, cel_1 tc ad R⟩) rfl rfl rfl (Nat.le_of_ble_eq_true rfl) ⟨Nat.le_of_ble_eq_true rfl, Nat.le_of_ble_eq_true rfl⟩ ⟨Nat.zero_le _, Nat.zero_le _⟩ dX3_parseBridge_65 (fun M15 h => ?_)
  exact ra_vret E hr dX3_parseBridge_68 h
def f_X3_parseBridge (a1 : Nat) (M : TM) (K : TM → Prop) : Prop := f_X10_advance M (fun M1 => f_X10_readNumber (0 : Int32) ((M1 a1 0) - (2 : Int32)) M1 (fun r3 M2 => f_X2_hasSection a1 r3 M2 (fun r5 M4 => ((r5 = 0 → f_X10_readToken (5 : Int32) M4 (fun M8 => K M8)) ∧ (¬ r5 = 0 → vp_in r3 15 ∧ (((M4 (a1 + 6 + r3.toNatClampNeg) 1) ≤ 0 → f_X3_parseBridge_L47 a1 K r3 M4) ∧ (¬ (M4 (a1 + 6 + r3.toNatClampNeg) 1) ≤ 0 → f_X10_failAt (3 : Int32) (M1 1 4) M4 (fun M16 => f_X3_parseBridge_L47 a1 K r3 M16))))))))
set_option maxRecDepth 100000 in
set_option maxHeartbeats 4000000 in
theorem c_X3_parseBridge {ad : Nat → Nat} (a1 : Nat) (h1 : IsCanal a1) (M : TM) (K : TM → Prop) (h : f_X3_parseBridge a1 M K) : MV yX3_parseBridge cX3_parseBridge 4 3 ad [.ref (ad 1), .ref (ad a1)] M K := by
  refine MV_of RX3 rfl (by decide +kernel) (Nat.le_of_ble_eq_true rfl) (fun p l e s m below meth c D tc E hr => ?_)
  unfold f_X3_parseBridge at h
  refine ra_aload_n E dX3_parseBridge_0 rfl 0 rfl ?_
  refine ra_callVV (rest := []) E (c_X10_advance _ _ h) (lq_X10 _) cv_X10_advance ml_X3_56 (by decide) (lm (by decide)) (fun R => ⟨_, cel_1 tc ad R⟩) rfl rfl rfl (Nat.le_of_ble_eq_true rfl) ⟨Nat.le_of_ble_eq_true rfl, Nat.le_of_ble_eq_true rfl⟩ ⟨Nat.zero_le _, Nat.zero_le _⟩ dX3_parseBridge_1 (fun M1 h => ?_)
  refine ra_aload_n E dX3_parseBridge_4 rfl 0 rfl ?_
  refine gf_X10_4 E fl_X3_59 dX3_parseBridge_5 ?_
  refine ra_istore_n (L' := [(2, _), (0, _), (1, _)]) E dX3_parseBridge_8 rfl (by decide) rfl ?_
  refine ra_aload_n E dX3_parseBridge_9 rfl 1 rfl ?_
  refine ra_iconst E dX3_parseBridge_10 ki_0 ?_
  refine ra_aload_n E dX3_parseBridge_11 rfl 2 rfl ?_
  refine gf_X2_0 E h1 fl_X3_63 dX3_parseBridge_12 ?_
  refine ra_iconst E dX3_parseBridge_15 ki_2 ?_
  refine ra_isub E dX3_parseBridge_16 ?_
  refine ra_callIV (rest := []) E (c_X10_readNumber _ _ _ _ h) (lq_X10 _) cv_X10_readNumber ml_X3_17 (by decide) (lm (by decide)) (fun R => ⟨_, cel_1 tc ad R⟩) rfl rfl rfl (Nat.le_of_ble_eq_true rfl) ⟨Nat.le_of_ble_eq_true rfl, Nat.le_of_ble_eq_true rfl⟩ ⟨Nat.zero_le _, Nat.zero_le _⟩ dX3_parseBridge_17 (fun r3 M2 h => ?_)
  refine ra_istore_n (L' := [(3, _), (2, _), (0, _), (1, _)]) E dX3_parseBridge_20 rfl (by decide) rfl ?_
  refine ra_aload_n E dX3_parseBridge_21 rfl 3 rfl ?_
  refine ra_iload_n E dX3_parseBridge_22 rfl 0 rfl ?_
  refine ra_callIV (rest := []) E (c_X2_hasSection _ h1 _ _ _ h) (lq_X2 _) cv_X2_hasSection ml_X3_66 (by decide) (lm (h1.add (j := 0) (by decide))) (fun R => ⟨_, cel_canal tc ad h1 R⟩) rfl rfl rfl (Nat.le_of_ble_eq_true rfl) ⟨Nat.le_of_ble_eq_true rfl, Nat.le_of_ble_eq_true rfl⟩ ⟨Nat.zero_le _, Nat.zero_le _⟩ dX3_parseBridge_23 (fun r5 M4 h => ?_)
  obtain ⟨b6, h⟩ := h
  refine ra_if_eq (tgt := 63) E dX3_parseBridge_26 (by decide) (fun q7 => ?_) (fun q7 => ?_)
  · replace h := h.1 q7
    refine ra_aload_n E dX3_parseBridge_63 rfl 2 rfl ?_
    refine ra_iconst E dX3_parseBridge_64 ki_5 ?_
    refine ra_callVV (rest := []) E (c_X10_readToken _ _ _ h) (lq_X10 _) cv_X10_readToken ml_X3_27 (by decide) (lm (by decide)) (fun R => ⟨_, cel_1 tc ad R⟩) rfl rfl rfl (Nat.le_of_ble_eq_true rfl) ⟨Nat.le_of_ble_eq_true rfl, Nat.le_of_ble_eq_true rfl⟩ ⟨Nat.zero_le _, Nat.zero_le _⟩ dX3_parseBridge_65 (fun M8 h => ?_)
    exact ra_vret E hr dX3_parseBridge_68 h
  · replace h := h.2 q7
    refine ra_aload_n E dX3_parseBridge_29 rfl 3 rfl ?_
    refine gf_X2_1 E h1 fl_X3_70 dX3_parseBridge_30 ?_
    refine ra_iload_n E dX3_parseBridge_33 rfl 0 rfl ?_
    obtain ⟨g9, h⟩ := h
    refine ra_aald E (lm (h1.add (by decide))) (cel_secs tc ad h1) rfl g9 dX3_parseBridge_34 ?_
    refine gf_X9_1 E (isSec_of h1 g9) fl_X3_83 dX3_parseBridge_35 ?_
    refine ra_if_le (tgt := 47) E dX3_parseBridge_38 (by decide) (fun q10 => ?_) (fun q10 => ?_)
    · replace h := h.1 q10
      exact ra_sub (L' := [(0, _), (1, _), (3, _)]) [2, 3, 0] rfl (l_X3_parseBridge_L47 a1 h1 E hr _ _ h)
    · replace h := h.2 q10
      refine ra_aload_n E dX3_parseBridge_41 rfl 2 rfl ?_
      refine ra_iconst E dX3_parseBridge_42 ki_3 ?_
      refine ra_iload_n E dX3_parseBridge_43 rfl 1 rfl ?_
      refine ra_callVV (rest := []) E (c_X10_failAt _ _ _ _ h) (lq_X10 _) cv_X10_failAt ml_X3_79 (by decide) (lm (by decide)) (fun R => ⟨_, cel_1 tc ad R⟩) rfl rfl rfl (Nat.le_of_ble_eq_true rfl) ⟨Nat.le_of_ble_eq_true rfl, Nat.le_of_ble_eq_true rfl⟩ ⟨Nat.zero_le _, Nat.zero_le _⟩ dX3_parseBridge_44 (fun M16 h => ?_)
      exact ra_sub (L' := [(0, _), (1, _), (3, _)]) [2, 3, 0] rfl (l_X3_parseBridge_L47 a1 h1 E hr _ _ h)
def f_X3_parseBarge (a1 : Nat) (M : TM) (K : TM → Prop) : Prop := f_X10_advance M (fun M1 => f_X10_readNumber (0 : Int32) ((M1 a1 0) - (1 : Int32)) M1 (fun r3 M2 => f_X10_readNumber (1 : Int32) (9 : Int32) M2 (fun r5 M4 => f_X10_readNumber (0 : Int32) (99 : Int32) M4 (fun r7 M6 => f_X10_readNumber (0 : Int32) (99 : Int32) M6 (fun r9 M8 => f_X10_readToken (5 : Int32) M8 (fun M10 => f_X2_addBarge a1 r3 r5 r7 r9 M10 (fun M11 => K M11)))))))
set_option maxRecDepth 100000 in
set_option maxHeartbeats 4000000 in
theorem c_X3_parseBarge {ad : Nat → Nat} (a1 : Nat) (h1 : IsCanal a1) (M : TM) (K : TM → Prop) (h : f_X3_parseBarge a1 M K) : MV yX3_parseBarge cX3_parseBarge 6 3 ad [.ref (ad 1), .ref (ad a1)] M K := by
  refine MV_of RX3 rfl (by decide +kernel) (Nat.le_of_ble_eq_true rfl) (fun p l e s m below meth c D tc E hr => ?_)
  unfold f_X3_parseBarge at h
  refine ra_aload_n E dX3_parseBarge_0 rfl 0 rfl ?_
  refine ra_callVV (rest := []) E (c_X10_advance _ _ h) (lq_X10 _) cv_X10_advance ml_X3_56 (by decide) (lm (by decide)) (fun R => ⟨_, cel_1 tc ad R⟩) rfl rfl rfl (Nat.le_of_ble_eq_true rfl) ⟨Nat.le_of_ble_eq_true rfl, Nat.le_of_ble_eq_true rfl⟩ ⟨Nat.zero_le _, Nat.zero_le _⟩ dX3_parseBarge_1 (fun M1 h => ?_)
  refine ra_aload_n E dX3_parseBarge_4 rfl 0 rfl ?_
  refine ra_iconst E dX3_parseBarge_5 ki_0 ?_
  refine ra_aload_n E dX3_parseBarge_6 rfl 1 rfl ?_
  refine gf_X2_0 E h1 fl_X3_63 dX3_parseBarge_7 ?_
  refine ra_iconst E dX3_parseBarge_10 ki_1 ?_
  refine ra_isub E dX3_parseBarge_11 ?_
  refine ra_callIV (rest := []) E (c_X10_readNumber _ _ _ _ h) (lq_X10 _) cv_X10_readNumber ml_X3_17 (by decide) (lm (by decide)) (fun R => ⟨_, cel_1 tc ad R⟩) rfl rfl rfl (Nat.le_of_ble_eq_true rfl) ⟨Nat.le_of_ble_eq_true rfl, Nat.le_of_ble_eq_true rfl⟩ ⟨Nat.zero_le _, Nat.zero_le _⟩ dX3_parseBarge_12 (fun r3 M2 h => ?_)
  refine ra_istore_n (L' := [(2, _), (0, _), (1, _)]) E dX3_parseBarge_15 rfl (by decide) rfl ?_
  refine ra_aload_n E dX3_parseBarge_16 rfl 1 rfl ?_
  refine ra_iconst E dX3_parseBarge_17 ki_1 ?_
  refine ra_bipush E dX3_parseBarge_18 kb_9 ?_
  refine ra_callIV (rest := []) E (c_X10_readNumber _ _ _ _ h) (lq_X10 _) cv_X10_readNumber ml_X3_17 (by decide) (lm (by decide)) (fun R => ⟨_, cel_1 tc ad R⟩) rfl rfl rfl (Nat.le_of_ble_eq_true rfl) ⟨Nat.le_of_ble_eq_true rfl, Nat.le_of_ble_eq_true rfl⟩ ⟨Nat.zero_le _, Nat.zero_le _⟩ dX3_parseBarge_20 (fun r5 M4 h => ?_)
  refine ra_istore_n (L' := [(3, _), (2, _), (0, _), (1, _)]) E dX3_parseBarge_23 rfl (by decide) rfl ?_
  refine ra_aload_n E dX3_parseBarge_24 rfl 2 rfl ?_
  refine ra_iconst E dX3_parseBarge_25 ki_0 ?_
  refine ra_bipush E dX3_parseBarge_26 kb_99 ?_
  refine ra_callIV (rest := []) E (c_X10_readNumber _ _ _ _ h) (lq_X10 _) cv_X10_readNumber ml_X3_17 (by decide) (lm (by decide)) (fun R => ⟨_, cel_1 tc ad R⟩) rfl rfl rfl (Nat.le_of_ble_eq_true rfl) ⟨Nat.le_of_ble_eq_true rfl, Nat.le_of_ble_eq_true rfl⟩ ⟨Nat.zero_le _, Nat.zero_le _⟩ dX3_parseBarge_28 (fun r7 M6 h => ?_)
  refine ra_istore (L' := [(4, _), (3, _), (2, _), (0, _), (1, _)]) E dX3_parseBarge_31 (by decide) rfl ?_
  refine ra_aload_n E dX3_parseBarge_33 rfl 3 rfl ?_
  refine ra_iconst E dX3_parseBarge_34 ki_0 ?_
  refine ra_bipush E dX3_parseBarge_35 kb_99 ?_
  refine ra_callIV (rest := []) E (c_X10_readNumber _ _ _ _ h) (lq_X10 _) cv_X10_readNumber ml_X3_17 (by decide) (lm (by decide)) (fun R => ⟨_, cel_1 tc ad R⟩) rfl rfl rfl (Nat.le_of_ble_eq_true rfl) ⟨Nat.le_of_ble_eq_true rfl, Nat.le_of_ble_eq_true rfl⟩ ⟨Nat.zero_le _, Nat.zero_le _⟩ dX3_parseBarge_37 (fun r9 M8 h => ?_)
  refine ra_istore (L' := [(5, _), (4, _), (3, _), (2, _), (0, _), (1, _)]) E dX3_parseBarge_40 (by decide) rfl ?_
  refine ra_aload_n E dX3_parseBarge_42 rfl 4 rfl ?_
  refine ra_iconst E dX3_parseBarge_43 ki_5 ?_
  refine ra_callVV (rest := []) E (c_X10_readToken _ _ _ h) (lq_X10 _) cv_X10_readToken ml_X3_27 (by decide) (lm (by decide)) (fun R => ⟨_, cel_1 tc ad R⟩) rfl rfl rfl (Nat.le_of_ble_eq_true rfl) ⟨Nat.le_of_ble_eq_true rfl, Nat.le_of_ble_eq_true rfl⟩ ⟨Nat.zero_le _, Nat.zero_le _⟩ dX3_parseBarge_44 (fun M10 h => ?_)
  refine ra_aload_n E dX3_parseBarge_47 rfl 5 rfl ?_
  refine ra_iload_n E dX3_parseBarge_48 rfl 3 rfl ?_
  refine ra_iload_n E dX3_parseBarge_49 rfl 2 rfl ?_
  refine ra_iload E dX3_parseBarge_50 1 rfl ?_
  refine ra_iload E dX3_parseBarge_52 0 rfl ?_
  refine ra_callVV (rest := []) E (c_X2_addBarge _ h1 _ _ _ _ _ _ h) (lq_X2 _) cv_X2_addBarge ml_X3_94 (by decide) (lm (h1.add (j := 0) (by decide))) (fun R => ⟨_, cel_canal tc ad h1 R⟩) rfl rfl rfl (Nat.le_of_ble_eq_true rfl) ⟨Nat.le_of_ble_eq_true rfl, Nat.le_of_ble_eq_true rfl⟩ ⟨Nat.zero_le _, Nat.zero_le _⟩ dX3_parseBarge_54 (fun M11 h => ?_)
  exact ra_vret E hr dX3_parseBarge_57 h
def f_X3_parseOrder (a1 : Nat) (M : TM) (K : TM → Prop) : Prop := f_X10_advance M (fun M1 => f_X10_readNumber (0 : Int32) ((M1 a1 0) - (1 : Int32)) M1 (fun r3 M2 => f_X10_readNumber (1 : Int32) (4 : Int32) M2 (fun r5 M4 => f_X10_readNumber (1 : Int32) (6 : Int32) M4 (fun r7 M6 => f_X10_readNumber (1 : Int32) (500 : Int32) M6 (fun r9 M8 => f_X10_readToken (5 : Int32) M8 (fun M10 => f_X2_addOrder a1 r3 r5 r7 r9 M10 (fun M11 => K M11)))))))
set_option maxRecDepth 100000 in
set_option maxHeartbeats 4000000 in
theorem c_X3_parseOrder {ad : Nat → Nat} (a1 : Nat) (h1 : IsCanal a1) (M : TM) (K : TM → Prop) (h : f_X3_parseOrder a1 M K) : MV yX3_parseOrder cX3_parseOrder 6 3 ad [.ref (ad 1), .ref (ad a1)] M K := by
  refine MV_of RX3 rfl (by decide +kernel) (Nat.le_of_ble_eq_true rfl) (fun p l e s m below meth c D tc E hr => ?_)
  unfold f_X3_parseOrder at h
  refine ra_aload_n E dX3_parseOrder_0 rfl 0 rfl ?_
  refine ra_callVV (rest := []) E (c_X10_advance _ _ h) (lq_X10 _) cv_X10_advance ml_X3_56 (by decide) (lm (by decide)) (fun R => ⟨_, cel_1 tc ad R⟩) rfl rfl rfl (Nat.le_of_ble_eq_true rfl) ⟨Nat.le_of_ble_eq_true rfl, Nat.le_of_ble_eq_true rfl⟩ ⟨Nat.zero_le _, Nat.zero_le _⟩ dX3_parseOrder_1 (fun M1 h => ?_)
  refine ra_aload_n E dX3_parseOrder_4 rfl 0 rfl ?_
  refine ra_iconst E dX3_parseOrder_5 ki_0 ?_
  refine ra_aload_n E dX3_parseOrder_6 rfl 1 rfl ?_
  refine gf_X2_0 E h1 fl_X3_63 dX3_parseOrder_7 ?_
  refine ra_iconst E dX3_parseOrder_10 ki_1 ?_
  refine ra_isub E dX3_parseOrder_11 ?_
  refine ra_callIV (rest := []) E (c_X10_readNumber _ _ _ _ h) (lq_X10 _) cv_X10_readNumber ml_X3_17 (by decide) (lm (by decide)) (fun R => ⟨_, cel_1 tc ad R⟩) rfl rfl rfl (Nat.le_of_ble_eq_true rfl) ⟨Nat.le_of_ble_eq_true rfl, Nat.le_of_ble_eq_true rfl⟩ ⟨Nat.zero_le _, Nat.zero_le _⟩ dX3_parseOrder_12 (fun r3 M2 h => ?_)
  refine ra_istore_n (L' := [(2, _), (0, _), (1, _)]) E dX3_parseOrder_15 rfl (by decide) rfl ?_
  refine ra_aload_n E dX3_parseOrder_16 rfl 1 rfl ?_
  refine ra_iconst E dX3_parseOrder_17 ki_1 ?_
  refine ra_iconst E dX3_parseOrder_18 ki_4 ?_
  refine ra_callIV (rest := []) E (c_X10_readNumber _ _ _ _ h) (lq_X10 _) cv_X10_readNumber ml_X3_17 (by decide) (lm (by decide)) (fun R => ⟨_, cel_1 tc ad R⟩) rfl rfl rfl (Nat.le_of_ble_eq_true rfl) ⟨Nat.le_of_ble_eq_true rfl, Nat.le_of_ble_eq_true rfl⟩ ⟨Nat.zero_le _, Nat.zero_le _⟩ dX3_parseOrder_19 (fun r5 M4 h => ?_)
  refine ra_istore_n (L' := [(3, _), (2, _), (0, _), (1, _)]) E dX3_parseOrder_22 rfl (by decide) rfl ?_
  refine ra_aload_n E dX3_parseOrder_23 rfl 2 rfl ?_
  refine ra_iconst E dX3_parseOrder_24 ki_1 ?_
  refine ra_bipush E dX3_parseOrder_25 kb_6 ?_
  refine ra_callIV (rest := []) E (c_X10_readNumber _ _ _ _ h) (lq_X10 _) cv_X10_readNumber ml_X3_17 (by decide) (lm (by decide)) (fun R => ⟨_, cel_1 tc ad R⟩) rfl rfl rfl (Nat.le_of_ble_eq_true rfl) ⟨Nat.le_of_ble_eq_true rfl, Nat.le_of_ble_eq_true rfl⟩ ⟨Nat.zero_le _, Nat.zero_le _⟩ dX3_parseOrder_27 (fun r7 M6 h => ?_)
  refine ra_istore (L' := [(4, _), (3, _), (2, _), (0, _), (1, _)]) E dX3_parseOrder_30 (by decide) rfl ?_
  refine ra_aload_n E dX3_parseOrder_32 rfl 3 rfl ?_
  refine ra_iconst E dX3_parseOrder_33 ki_1 ?_
  refine ra_sipush E dX3_parseOrder_34 ks_500 ?_
  refine ra_callIV (rest := []) E (c_X10_readNumber _ _ _ _ h) (lq_X10 _) cv_X10_readNumber ml_X3_17 (by decide) (lm (by decide)) (fun R => ⟨_, cel_1 tc ad R⟩) rfl rfl rfl (Nat.le_of_ble_eq_true rfl) ⟨Nat.le_of_ble_eq_true rfl, Nat.le_of_ble_eq_true rfl⟩ ⟨Nat.zero_le _, Nat.zero_le _⟩ dX3_parseOrder_37 (fun r9 M8 h => ?_)
  refine ra_istore (L' := [(5, _), (4, _), (3, _), (2, _), (0, _), (1, _)]) E dX3_parseOrder_40 (by decide) rfl ?_
  refine ra_aload_n E dX3_parseOrder_42 rfl 4 rfl ?_
  refine ra_iconst E dX3_parseOrder_43 ki_5 ?_
  refine ra_callVV (rest := []) E (c_X10_readToken _ _ _ h) (lq_X10 _) cv_X10_readToken ml_X3_27 (by decide) (lm (by decide)) (fun R => ⟨_, cel_1 tc ad R⟩) rfl rfl rfl (Nat.le_of_ble_eq_true rfl) ⟨Nat.le_of_ble_eq_true rfl, Nat.le_of_ble_eq_true rfl⟩ ⟨Nat.zero_le _, Nat.zero_le _⟩ dX3_parseOrder_44 (fun M10 h => ?_)
  refine ra_aload_n E dX3_parseOrder_47 rfl 5 rfl ?_
  refine ra_iload_n E dX3_parseOrder_48 rfl 3 rfl ?_
  refine ra_iload_n E dX3_parseOrder_49 rfl 2 rfl ?_
  refine ra_iload E dX3_parseOrder_50 1 rfl ?_
  refine ra_iload E dX3_parseOrder_52 0 rfl ?_
  refine ra_callVV (rest := []) E (c_X2_addOrder _ h1 _ _ _ _ _ _ h) (lq_X2 _) cv_X2_addOrder ml_X3_103 (by decide) (lm (h1.add (j := 0) (by decide))) (fun R => ⟨_, cel_canal tc ad h1 R⟩) rfl rfl rfl (Nat.le_of_ble_eq_true rfl) ⟨Nat.le_of_ble_eq_true rfl, Nat.le_of_ble_eq_true rfl⟩ ⟨Nat.zero_le _, Nat.zero_le _⟩ dX3_parseOrder_54 (fun M11 h => ?_)
  exact ra_vret E hr dX3_parseOrder_57 h
def f_X8_parseNumbers (a1 : Nat) (M : TM) (K : TM → Prop) : Prop := vp_in (M a1 0) 9 ∧ vp_in (M a1 0) 9 ∧ ((((M a1 0) + 1) = 1 → f_X10_readNumber (0 : Int32) (4 : Int32) M (fun r5 M4 => ∀ M6, M6 = u2 M4 a1 1 r5 → f_X10_readNumber (0 : Int32) (15 : Int32) M6 (fun r8 M7 => ∀ M9, M9 = u2 M7 a1 2 r8 → K M9))) ∧ (((M a1 0) + 1) = 2 → f_X10_readNumber (0 : Int32) (15 : Int32) M (fun r11 M10 => ∀ M12, M12 = u2 M10 a1 1 r11 → f_X10_readNumber (1 : Int32) (4 : Int32) M12 (fun r14 M13 => ∀ M15, M15 = u2 M13 a1 2 r14 → f_X10_readNumber (1 : Int32) (6 : Int32) M15 (fun r17 M16 => ∀ M18, M18 = u2 M16 a1 3 r17 → f_X10_readNumber (1 : Int32) (500 : Int32) M18 (fun r20 M19 => ∀ M21, M21 = u2 M19 a1 4 r20 → K M21))))) ∧ (((M a1 0) + 1) = 3 → f_X10_readNumber (0 : Int32) (4 : Int32) M (fun r23 M22 => ∀ M24, M24 = u2 M22 a1 1 r23 → f_X10_readNumber (0 : Int32) (29 : Int32) M24 (fun r26 M25 => ∀ M27, M27 = u2 M25 a1 2 r26 → K M27))) ∧ (((M a1 0) + 1) = 4 → f_X10_readNumber (0 : Int32) (29 : Int32) M (fun r29 M28 => ∀ M30, M30 = u2 M28 a1 1 r29 → K M30)) ∧ (((M a1 0) + 1) = 5 → f_X10_readNumber (0 : Int32) (4 : Int32) M (fun r32 M31 => ∀ M33, M33 = u2 M31 a1 1 r32 → f_X10_readNumber (1 : Int32) (99 : Int32) M33 (fun r35 M34 => ∀ M36, M36 = u2 M34 a1 2 r35 → K M36))) ∧ (((M a1 0) + 1) = 6 → f_X10_readNumber (0 : Int32) (4 : Int32) M (fun r38 M37 => ∀ M39, M39 = u2 M37 a1 1 r38 → K M39)) ∧ (((M a1 0) + 1) = 7 → f_X10_readNumber (0 : Int32) (4 : Int32) M (fun r41 M40 => ∀ M42, M42 = u2 M40 a1 1 r41 → K M42)) ∧ (((M a1 0) + 1) = 8 → f_X10_readNumber (1 : Int32) (60 : Int32) M (fun r44 M43 => ∀ M45, M45 = u2 M43 a1 1 r44 → K M45)) ∧ (((M a1 0) + 1) = 9 → f_X10_readNumber (2 : Int32) (5 : Int32) M (fun r47 M46 => ∀ M48, M48 = u2 M46 a1 1 r47 → K M48)) ∧ (¬ ((M a1 0) + 1) = 1 → ¬ ((M a1 0) + 1) = 2 → ¬ ((M a1 0) + 1) = 3 → ¬ ((M a1 0) + 1) = 4 → ¬ ((M a1 0) + 1) = 5 → ¬ ((M a1 0) + 1) = 6 → ¬ ((M a1 0) + 1) = 7 → ¬ ((M a1 0) + 1) = 8 → ¬ ((M a1 0) + 1) = 9 → K M))
set_option maxRecDepth 100000 in
set_option maxHeartbeats 4000000 in
theorem c_X8_parseNumbers {ad : Nat → Nat} (a1 : Nat) (h1 : IsCmd a1) (M : TM) (K : TM → Prop) (h : f_X8_parseNumbers a1 M K) : MV yX8_parseNumbers cX8_parseNumbers 2 3 ad [.ref (ad 1), .ref (ad a1)] M K := by
  refine MV_of RX8 rfl (by decide +kernel) (Nat.le_of_ble_eq_true rfl) (fun p l e s m below meth c D tc E hr => ?_)
  unfold f_X8_parseNumbers at h
  refine gs_smap E fl_X8_85 dX8_parseNumbers_0 ?_
  refine ra_aload_n E dX8_parseNumbers_3 rfl 1 rfl ?_
  refine gf_X4_0 E h1 fl_X8_63 dX8_parseNumbers_4 ?_
  obtain ⟨g1, h⟩ := h
  refine ra_ordinal E g1 ml_X8_91 (Nat.le_of_ble_eq_true rfl) ⟨Nat.le_of_ble_eq_true rfl, Nat.le_of_ble_eq_true rfl⟩ ⟨Nat.zero_le _, Nat.zero_le _⟩ dX8_parseNumbers_7 ?_
  obtain ⟨g2, h⟩ := h
  refine ia_smap E g2 dX8_parseNumbers_10 ?_
  by_cases q3_0 : ((M a1 0) + 1) = 1
  · replace h := h.1 q3_0
    refine ra_tableIn (tgt := 60) (off := 49) E dX8_parseNumbers_11 (by rw [q3_0]; decide) (by rw [q3_0]; decide) (by rw [q3_0]; decide) (by decide) ?_
    refine ra_aload_n E dX8_parseNumbers_60 rfl 1 rfl ?_
    refine ra_aload_n E dX8_parseNumbers_61 rfl 0 rfl ?_
    refine ra_iconst E dX8_parseNumbers_62 ki_0 ?_
    refine ra_iconst E dX8_parseNumbers_63 ki_4 ?_
    refine ra_callIV (rest := [_]) E (c_X10_readNumber _ _ _ _ h) (lq_X10 _) cv_X10_readNumber ml_X8_95 (by decide) (lm (by decide)) (fun R => ⟨_, cel_1 tc ad R⟩) rfl rfl rfl (Nat.le_of_ble_eq_true rfl) ⟨Nat.le_of_ble_eq_true rfl, Nat.le_of_ble_eq_true rfl⟩ ⟨Nat.zero_le _, Nat.zero_le _⟩ dX8_parseNumbers_64 (fun r50 M49 h => ?_)
    refine pf_X4_1 E h1 fl_X8_99 dX8_parseNumbers_67 ?_
    replace h := h _ rfl
    refine ra_aload_n E dX8_parseNumbers_70 rfl 1 rfl ?_
    refine ra_aload_n E dX8_parseNumbers_71 rfl 0 rfl ?_
    refine ra_iconst E dX8_parseNumbers_72 ki_0 ?_
    refine ra_bipush E dX8_parseNumbers_73 kb_15 ?_
    refine ra_callIV (rest := [_]) E (c_X10_readNumber _ _ _ _ h) (lq_X10 _) cv_X10_readNumber ml_X8_95 (by decide) (lm (by decide)) (fun R => ⟨_, cel_1 tc ad R⟩) rfl rfl rfl (Nat.le_of_ble_eq_true rfl) ⟨Nat.le_of_ble_eq_true rfl, Nat.le_of_ble_eq_true rfl⟩ ⟨Nat.zero_le _, Nat.zero_le _⟩ dX8_parseNumbers_75 (fun r53 M52 h => ?_)
    refine pf_X4_2 E h1 fl_X8_102 dX8_parseNumbers_78 ?_
    replace h := h _ rfl
    refine ra_goto (tgt := 233) E dX8_parseNumbers_81 (by decide) ?_
    exact ra_vret E hr dX8_parseNumbers_233 h
  by_cases q3_1 : ((M a1 0) + 1) = 2
  · replace h := h.2.1 q3_1
    refine ra_tableIn (tgt := 84) (off := 73) E dX8_parseNumbers_11 (by rw [q3_1]; decide) (by rw [q3_1]; decide) (by rw [q3_1]; decide) (by decide) ?_
    refine ra_aload_n E dX8_parseNumbers_84 rfl 1 rfl ?_
    refine ra_aload_n E dX8_parseNumbers_85 rfl 0 rfl ?_
    refine ra_iconst E dX8_parseNumbers_86 ki_0 ?_
    refine ra_bipush E dX8_parseNumbers_87 kb_15 ?_
    refine ra_callIV (rest := [_]) E (c_X10_readNumber _ _ _ _ h) (lq_X10 _) cv_X10_readNumber ml_X8_95 (by decide) (lm (by decide)) (fun R => ⟨_, cel_1 tc ad R⟩) rfl rfl rfl (Nat.le_of_ble_eq_true rfl) ⟨Nat.le_of_ble_eq_true rfl, Nat.le_of_ble_eq_true rfl⟩ ⟨Nat.zero_le _, Nat.zero_le _⟩ dX8_parseNumbers_89 (fun r56 M55 h => ?_)
    refine pf_X4_1 E h1 fl_X8_99 dX8_parseNumbers_92 ?_
    replace h := h _ rfl
    refine ra_aload_n E dX8_parseNumbers_95 rfl 1 rfl ?_
    refine ra_aload_n E dX8_parseNumbers_96 rfl 0 rfl ?_
    refine ra_iconst E dX8_parseNumbers_97 ki_1 ?_
    refine ra_iconst E dX8_parseNumbers_98 ki_4 ?_
    refine ra_callIV (rest := [_]) E (c_X10_readNumber _ _ _ _ h) (lq_X10 _) cv_X10_readNumber ml_X8_95 (by decide) (lm (by decide)) (fun R => ⟨_, cel_1 tc ad R⟩) rfl rfl rfl (Nat.le_of_ble_eq_true rfl) ⟨Nat.le_of_ble_eq_true rfl, Nat.le_of_ble_eq_true rfl⟩ ⟨Nat.zero_le _, Nat.zero_le _⟩ dX8_parseNumbers_99 (fun r59 M58 h => ?_)
    refine pf_X4_2 E h1 fl_X8_102 dX8_parseNumbers_102 ?_
    replace h := h _ rfl
    refine ra_aload_n E dX8_parseNumbers_105 rfl 1 rfl ?_
    refine ra_aload_n E dX8_parseNumbers_106 rfl 0 rfl ?_
    refine ra_iconst E dX8_parseNumbers_107 ki_1 ?_
    refine ra_bipush E dX8_parseNumbers_108 kb_6 ?_
    refine ra_callIV (rest := [_]) E (c_X10_readNumber _ _ _ _ h) (lq_X10 _) cv_X10_readNumber ml_X8_95 (by decide) (lm (by decide)) (fun R => ⟨_, cel_1 tc ad R⟩) rfl rfl rfl (Nat.le_of_ble_eq_true rfl) ⟨Nat.le_of_ble_eq_true rfl, Nat.le_of_ble_eq_true rfl⟩ ⟨Nat.zero_le _, Nat.zero_le _⟩ dX8_parseNumbers_110 (fun r62 M61 h => ?_)
    refine pf_X4_3 E h1 fl_X8_105 dX8_parseNumbers_113 ?_
    replace h := h _ rfl
    refine ra_aload_n E dX8_parseNumbers_116 rfl 1 rfl ?_
    refine ra_aload_n E dX8_parseNumbers_117 rfl 0 rfl ?_
    refine ra_iconst E dX8_parseNumbers_118 ki_1 ?_
    refine ra_sipush E dX8_parseNumbers_119 ks_500 ?_
    refine ra_callIV (rest := [_]) E (c_X10_readNumber _ _ _ _ h) (lq_X10 _) cv_X10_readNumber ml_X8_95 (by decide) (lm (by decide)) (fun R => ⟨_, cel_1 tc ad R⟩) rfl rfl rfl (Nat.le_of_ble_eq_true rfl) ⟨Nat.le_of_ble_eq_true rfl, Nat.le_of_ble_eq_true rfl⟩ ⟨Nat.zero_le _, Nat.zero_le _⟩ dX8_parseNumbers_122 (fun r65 M64 h => ?_)
    refine pf_X4_4 E h1 fl_X8_108 dX8_parseNumbers_125 ?_
    replace h := h _ rfl
    refine ra_goto (tgt := 233) E dX8_parseNumbers_128 (by decide) ?_
    exact ra_vret E hr dX8_parseNumbers_233 h
  by_cases q3_2 : ((M a1 0) + 1) = 3
  · replace h := h.2.2.1 q3_2
    refine ra_tableIn (tgt := 131) (off := 120) E dX8_parseNumbers_11 (by rw [q3_2]; decide) (by rw [q3_2]; decide) (by rw [q3_2]; decide) (by decide) ?_
    refine ra_aload_n E dX8_parseNumbers_131 rfl 1 rfl ?_
    refine ra_aload_n E dX8_parseNumbers_132 rfl 0 rfl ?_
    refine ra_iconst E dX8_parseNumbers_133 ki_0 ?_
    refine ra_iconst E dX8_parseNumbers_134 ki_4 ?_
    refine ra_callIV (rest := [_]) E (c_X10_readNumber _ _ _ _ h) (lq_X10 _) cv_X10_readNumber ml_X8_95 (by decide) (lm (by decide)) (fun R => ⟨_, cel_1 tc ad R⟩) rfl rfl rfl (Nat.le_of_ble_eq_true rfl) ⟨Nat.le_of_ble_eq_true rfl, Nat.le_of_ble_eq_true rfl⟩ ⟨Nat.zero_le _, Nat.zero_le _⟩ dX8_parseNumbers_135 (fun r68 M67 h => ?_)
    refine pf_X4_1 E h1 fl_X8_99 dX8_parseNumbers_138 ?_
    replace h := h _ rfl
    refine ra_aload_n E dX8_parseNumbers_141 rfl 1 rfl ?_
    refine ra_aload_n E dX8_parseNumbers_142 rfl 0 rfl ?_
    refine ra_iconst E dX8_parseNumbers_143 ki_0 ?_
    refine ra_bipush E dX8_parseNumbers_144 kb_29 ?_
    refine ra_callIV (rest := [_]) E (c_X10_readNumber _ _ _ _ h) (lq_X10 _) cv_X10_readNumber ml_X8_95 (by decide) (lm (by decide)) (fun R => ⟨_, cel_1 tc ad R⟩) rfl rfl rfl (Nat.le_of_ble_eq_true rfl) ⟨Nat.le_of_ble_eq_true rfl, Nat.le_of_ble_eq_true rfl⟩ ⟨Nat.zero_le _, Nat.zero_le _⟩ dX8_parseNumbers_146 (fun r71 M70 h => ?_)
    refine pf_X4_2 E h1 fl_X8_102 dX8_parseNumbers_149 ?_
    replace h := h _ rfl
    refine ra_goto (tgt := 233) E dX8_parseNumbers_152 (by decide) ?_
    exact ra_vret E hr dX8_parseNumbers_233 h
  by_cases q3_3 : ((M a1 0) + 1) = 4
  · replace h := h.2.2.2.1 q3_3
    refine ra_tableIn (tgt := 155) (off := 144) E dX8_parseNumbers_11 (by rw [q3_3]; decide) (by rw [q3_3]; decide) (by rw [q3_3]; decide) (by decide) ?_
    refine ra_aload_n E dX8_parseNumbers_155 rfl 1 rfl ?_
    refine ra_aload_n E dX8_parseNumbers_156 rfl 0 rfl ?_
    refine ra_iconst E dX8_parseNumbers_157 ki_0 ?_
    refine ra_bipush E dX8_parseNumbers_158 kb_29 ?_
    refine ra_callIV (rest := [_]) E (c_X10_readNumber _ _ _ _ h) (lq_X10 _) cv_X10_readNumber ml_X8_95 (by decide) (lm (by decide)) (fun R => ⟨_, cel_1 tc ad R⟩) rfl rfl rfl (Nat.le_of_ble_eq_true rfl) ⟨Nat.le_of_ble_eq_true rfl, Nat.le_of_ble_eq_true rfl⟩ ⟨Nat.zero_le _, Nat.zero_le _⟩ dX8_parseNumbers_160 (fun r74 M73 h => ?_)
    refine pf_X4_1 E h1 fl_X8_99 dX8_parseNumbers_163 ?_
    replace h := h _ rfl
    refine ra_goto (tgt := 233) E dX8_parseNumbers_166 (by decide) ?_
    exact ra_vret E hr dX8_parseNumbers_233 h
  by_cases q3_4 : ((M a1 0) + 1) = 5
  · replace h := h.2.2.2.2.1 q3_4
    refine ra_tableIn (tgt := 169) (off := 158) E dX8_parseNumbers_11 (by rw [q3_4]; decide) (by rw [q3_4]; decide) (by rw [q3_4]; decide) (by decide) ?_
    refine ra_aload_n E dX8_parseNumbers_169 rfl 1 rfl ?_
    refine ra_aload_n E dX8_parseNumbers_170 rfl 0 rfl ?_
    refine ra_iconst E dX8_parseNumbers_171 ki_0 ?_
    refine ra_iconst E dX8_parseNumbers_172 ki_4 ?_
    refine ra_callIV (rest := [_]) E (c_X10_readNumber _ _ _ _ h) (lq_X10 _) cv_X10_readNumber ml_X8_95 (by decide) (lm (by decide)) (fun R => ⟨_, cel_1 tc ad R⟩) rfl rfl rfl (Nat.le_of_ble_eq_true rfl) ⟨Nat.le_of_ble_eq_true rfl, Nat.le_of_ble_eq_true rfl⟩ ⟨Nat.zero_le _, Nat.zero_le _⟩ dX8_parseNumbers_173 (fun r77 M76 h => ?_)
    refine pf_X4_1 E h1 fl_X8_99 dX8_parseNumbers_176 ?_
    replace h := h _ rfl
    refine ra_aload_n E dX8_parseNumbers_179 rfl 1 rfl ?_
    refine ra_aload_n E dX8_parseNumbers_180 rfl 0 rfl ?_
    refine ra_iconst E dX8_parseNumbers_181 ki_1 ?_
    refine ra_bipush E dX8_parseNumbers_182 kb_99 ?_
    refine ra_callIV (rest := [_]) E (c_X10_readNumber _ _ _ _ h) (lq_X10 _) cv_X10_readNumber ml_X8_95 (by decide) (lm (by decide)) (fun R => ⟨_, cel_1 tc ad R⟩) rfl rfl rfl (Nat.le_of_ble_eq_true rfl) ⟨Nat.le_of_ble_eq_true rfl, Nat.le_of_ble_eq_true rfl⟩ ⟨Nat.zero_le _, Nat.zero_le _⟩ dX8_parseNumbers_184 (fun r80 M79 h => ?_)
    refine pf_X4_2 E h1 fl_X8_102 dX8_parseNumbers_187 ?_
    replace h := h _ rfl
    refine ra_goto (tgt := 233) E dX8_parseNumbers_190 (by decide) ?_
    exact ra_vret E hr dX8_parseNumbers_233 h
  by_cases q3_5 : ((M a1 0) + 1) = 6
  · replace h := h.2.2.2.2.2.1 q3_5
    refine ra_tableIn (tgt := 193) (off := 182) E dX8_parseNumbers_11 (by rw [q3_5]; decide) (by rw [q3_5]; decide) (by rw [q3_5]; decide) (by decide) ?_
    refine ra_aload_n E dX8_parseNumbers_193 rfl 1 rfl ?_
    refine ra_aload_n E dX8_parseNumbers_194 rfl 0 rfl ?_
    refine ra_iconst E dX8_parseNumbers_195 ki_0 ?_
    refine ra_iconst E dX8_parseNumbers_196 ki_4 ?_
    refine ra_callIV (rest := [_]) E (c_X10_readNumber _ _ _ _ h) (lq_X10 _) cv_X10_readNumber ml_X8_95 (by decide) (lm (by decide)) (fun R => ⟨_, cel_1 tc ad R⟩) rfl rfl rfl (Nat.le_of_ble_eq_true rfl) ⟨Nat.le_of_ble_eq_true rfl, Nat.le_of_ble_eq_true rfl⟩ ⟨Nat.zero_le _, Nat.zero_le _⟩ dX8_parseNumbers_197 (fun r83 M82 h => ?_)
    refine pf_X4_1 E h1 fl_X8_99 dX8_parseNumbers_200 ?_
    replace h := h _ rfl
    refine ra_goto (tgt := 233) E dX8_parseNumbers_203 (by decide) ?_
    exact ra_vret E hr dX8_parseNumbers_233 h
  by_cases q3_6 : ((M a1 0) + 1) = 7
  · replace h := h.2.2.2.2.2.2.1 q3_6
    refine ra_tableIn (tgt := 193) (off := 182) E dX8_parseNumbers_11 (by rw [q3_6]; decide) (by rw [q3_6]; decide) (by rw [q3_6]; decide) (by decide) ?_
    refine ra_aload_n E dX8_parseNumbers_193 rfl 1 rfl ?_
    refine ra_aload_n E dX8_parseNumbers_194 rfl 0 rfl ?_
    refine ra_iconst E dX8_parseNumbers_195 ki_0 ?_
    refine ra_iconst E dX8_parseNumbers_196 ki_4 ?_
    refine ra_callIV (rest := [_]) E (c_X10_readNumber _ _ _ _ h) (lq_X10 _) cv_X10_readNumber ml_X8_95 (by decide) (lm (by decide)) (fun R => ⟨_, cel_1 tc ad R⟩) rfl rfl rfl (Nat.le_of_ble_eq_true rfl) ⟨Nat.le_of_ble_eq_true rfl, Nat.le_of_ble_eq_true rfl⟩ ⟨Nat.zero_le _, Nat.zero_le _⟩ dX8_parseNumbers_197 (fun r86 M85 h => ?_)
    refine pf_X4_1 E h1 fl_X8_99 dX8_parseNumbers_200 ?_
    replace h := h _ rfl
    refine ra_goto (tgt := 233) E dX8_parseNumbers_203 (by decide) ?_
    exact ra_vret E hr dX8_parseNumbers_233 h
  by_cases q3_7 : ((M a1 0) + 1) = 8
  · replace h := h.2.2.2.2.2.2.2.1 q3_7
    refine ra_tableIn (tgt := 206) (off := 195) E dX8_parseNumbers_11 (by rw [q3_7]; decide) (by rw [q3_7]; decide) (by rw [q3_7]; decide) (by decide) ?_
    refine ra_aload_n E dX8_parseNumbers_206 rfl 1 rfl ?_
    refine ra_aload_n E dX8_parseNumbers_207 rfl 0 rfl ?_
    refine ra_iconst E dX8_parseNumbers_208 ki_1 ?_
    refine ra_bipush E dX8_parseNumbers_209 kb_60 ?_
    refine ra_callIV (rest := [_]) E (c_X10_readNumber _ _ _ _ h) (lq_X10 _) cv_X10_readNumber ml_X8_95 (by decide) (lm (by decide)) (fun R => ⟨_, cel_1 tc ad R⟩) rfl rfl rfl (Nat.le_of_ble_eq_true rfl) ⟨Nat.le_of_ble_eq_true rfl, Nat.le_of_ble_eq_true rfl⟩ ⟨Nat.zero_le _, Nat.zero_le _⟩ dX8_parseNumbers_211 (fun r89 M88 h => ?_)
    refine pf_X4_1 E h1 fl_X8_99 dX8_parseNumbers_214 ?_
    replace h := h _ rfl
    refine ra_goto (tgt := 233) E dX8_parseNumbers_217 (by decide) ?_
    exact ra_vret E hr dX8_parseNumbers_233 h
  by_cases q3_8 : ((M a1 0) + 1) = 9
  · replace h := h.2.2.2.2.2.2.2.2.1 q3_8
    refine ra_tableIn (tgt := 220) (off := 209) E dX8_parseNumbers_11 (by rw [q3_8]; decide) (by rw [q3_8]; decide) (by rw [q3_8]; decide) (by decide) ?_
    refine ra_aload_n E dX8_parseNumbers_220 rfl 1 rfl ?_
    refine ra_aload_n E dX8_parseNumbers_221 rfl 0 rfl ?_
    refine ra_iconst E dX8_parseNumbers_222 ki_2 ?_
    refine ra_iconst E dX8_parseNumbers_223 ki_5 ?_
    refine ra_callIV (rest := [_]) E (c_X10_readNumber _ _ _ _ h) (lq_X10 _) cv_X10_readNumber ml_X8_95 (by decide) (lm (by decide)) (fun R => ⟨_, cel_1 tc ad R⟩) rfl rfl rfl (Nat.le_of_ble_eq_true rfl) ⟨Nat.le_of_ble_eq_true rfl, Nat.le_of_ble_eq_true rfl⟩ ⟨Nat.zero_le _, Nat.zero_le _⟩ dX8_parseNumbers_224 (fun r92 M91 h => ?_)
    refine pf_X4_1 E h1 fl_X8_99 dX8_parseNumbers_227 ?_
    replace h := h _ rfl
    refine ra_goto (tgt := 233) E dX8_parseNumbers_230 (by decide) ?_
    exact ra_vret E hr dX8_parseNumbers_233 h
  replace h := h.2.2.2.2.2.2.2.2.2 q3_0 q3_1 q3_2 q3_3 q3_4 q3_5 q3_6 q3_7 q3_8
  refine ra_tableOut (tgt := 233) E dX8_parseNumbers_11 (by have := lk_ne q3_0 (by decide : (1 : Int32).toInt = 1); have := lk_ne q3_1 (by decide : (2 : Int32).toInt = 2); have := lk_ne q3_2 (by decide : (3 : Int32).toInt = 3); have := lk_ne q3_3 (by decide : (4 : Int32).toInt = 4); have := lk_ne q3_4 (by decide : (5 : Int32).toInt = 5); have := lk_ne q3_5 (by decide : (6 : Int32).toInt = 6); have := lk_ne q3_6 (by decide : (7 : Int32).toInt = 7); have := lk_ne q3_7 (by decide : (8 : Int32).toInt = 8); have := lk_ne q3_8 (by decide : (9 : Int32).toInt = 9); omega) (by decide) ?_
  exact ra_vret E hr dX8_parseNumbers_233 h
def f_X10_begin (p1 : Int32) (M : TM) (K : TM → Prop) : Prop := ∀ M1, M1 = u2 M 1 2 (if (500 : Int32) < p1 then (500 : Int32) else p1) → ∀ M2, M2 = u2 M1 1 5 (0 : Int32) → ∀ M3, M3 = u2 M2 1 6 (0 : Int32) → ∀ M4, M4 = u2 M3 1 7 (-1 : Int32) → f_X10_advance M4 (fun M5 => K M5)
set_option maxRecDepth 100000 in
set_option maxHeartbeats 4000000 in
theorem c_X10_begin {ad : Nat → Nat} (p1 : Int32) (M : TM) (K : TM → Prop) (h : f_X10_begin p1 M K) : MV yX10_begin cX10_begin 2 2 ad [.ref (ad 1), .int p1] M K := by
  refine MV_of RX10 rfl (by decide +kernel) (Nat.le_of_ble_eq_true rfl) (fun p l e s m below meth c D tc E hr => ?_)
  unfold f_X10_begin at h
  refine ra_aload_n E dX10_begin_0 rfl 0 rfl ?_
  refine ra_iload_n E dX10_begin_1 rfl 1 rfl ?_
  refine ra_aload_n E dX10_begin_2 rfl 0 rfl ?_
  refine gf_X10_0 E fl_X10_9 dX10_begin_3 ?_
  refine ra_alen (n := 500) (v := 500) E (lm (by decide)) (fun R => ⟨_, (cel_2 tc ad) R, rfl⟩) rfl (by decide) dX10_begin_6 ?_
  refine ra_mmin E ml_X10_50 ⟨Nat.le_of_ble_eq_true rfl, Nat.le_of_ble_eq_true rfl⟩ ⟨Nat.zero_le _, Nat.zero_le _⟩ dX10_begin_7 ?_
  refine pf_X10_2 E fl_X10_19 dX10_begin_10 ?_
  replace h := h _ rfl
  refine ra_aload_n E dX10_begin_13 rfl 0 rfl ?_
  refine ra_iconst E dX10_begin_14 ki_0 ?_
  refine pf_X10_5 E fl_X10_28 dX10_begin_15 ?_
  replace h := h _ rfl
  refine ra_aload_n E dX10_begin_18 rfl 0 rfl ?_
  refine ra_iconst E dX10_begin_19 ki_0 ?_
  refine pf_X10_6 E fl_X10_31 dX10_begin_20 ?_
  replace h := h _ rfl
  refine ra_aload_n E dX10_begin_23 rfl 0 rfl ?_
  refine ra_iconst E dX10_begin_24 ki_m1 ?_
  refine pf_X10_7 E fl_X10_34 dX10_begin_25 ?_
  replace h := h _ rfl
  refine ra_aload_n E dX10_begin_28 rfl 0 rfl ?_
  refine ra_callVV (rest := []) E (c_X10_advance _ _ h) (lq_X10 _) cv_X10_advance ml_X10_56 (by decide) (lm (by decide)) (fun R => ⟨_, cel_1 tc ad R⟩) rfl rfl rfl (Nat.le_of_ble_eq_true rfl) ⟨Nat.le_of_ble_eq_true rfl, Nat.le_of_ble_eq_true rfl⟩ ⟨Nat.zero_le _, Nat.zero_le _⟩ dX10_begin_29 (fun M5 h => ?_)
  exact ra_vret E hr dX10_begin_32 h
def f_X12_placeOf (p1 : Int32) (M : TM) (K : Int32 → TM → Prop) (X : String → TM → Prop) : Prop := f_X12_bargeAt p1 M (fun o2 M1 => (∃ x3, IsBarge x3 ∧ o2 = some x3) ∧ (∀ x3, IsBarge x3 → o2 = some x3 → K (M1 x3 0) M1)) X
set_option maxRecDepth 100000 in
set_option maxHeartbeats 4000000 in
theorem c_X12_placeOf {ad : Nat → Nat} (p1 : Int32) (M : TM) (K : Int32 → TM → Prop) (X : String → TM → Prop) (h : f_X12_placeOf p1 M K X) : XI yX12_placeOf cX12_placeOf 2 (some .int) 8 1 ad [.ref (ad 0), .int p1] M K X := by
  refine XI_of RX12 rfl (by decide +kernel) (Nat.le_of_ble_eq_true rfl) (fun p l e s m below meth c D tc E hr hfl hT => ?_)
  unfold f_X12_placeOf at h
  refine ra_aload_n E dX12_placeOf_0 rfl 0 rfl ?_
  refine ra_iload_n E dX12_placeOf_1 rfl 1 rfl ?_
  refine rx_callAVP (rest := []) E hfl (c_X12_bargeAt _ _ _ _ h) (lq_X12 _) cv_X12_bargeAt ml_X12_144 (by decide) (lm (by decide)) (fun R => ⟨_, cel_0 tc ad R⟩) rfl rfl rfl (Nat.le_of_ble_eq_true rfl) ⟨Nat.le_of_ble_eq_true rfl, Nat.le_of_ble_eq_true rfl⟩ ⟨Nat.le_of_ble_eq_true rfl, Nat.le_of_ble_eq_true rfl⟩ dX12_placeOf_2 hT ⟨Nat.le_of_ble_eq_true rfl, Nat.le_of_ble_eq_true rfl⟩ (fun _ _ hx => hx) (fun o2 M1 h => ?_)
  obtain ⟨q5, q7⟩ := h
  obtain ⟨x3, g4, q5⟩ := q5
  replace h := q7 x3 g4 q5
  subst q5
  refine gf_X1_0 E g4 fl_X12_148 dX12_placeOf_5 ?_
  exact rx_iret E hr dX12_placeOf_8 ⟨Nat.le_of_ble_eq_true rfl, Nat.le_of_ble_eq_true rfl⟩ h
def f_X12_targetOf (p1 : Int32) (M : TM) (K : Int32 → TM → Prop) (X : String → TM → Prop) : Prop := f_X12_bargeAt p1 M (fun o2 M1 => (∃ x3, IsBarge x3 ∧ o2 = some x3) ∧ (∀ x3, IsBarge x3 → o2 = some x3 → K (M1 x3 1) M1)) X
set_option maxRecDepth 100000 in
set_option maxHeartbeats 4000000 in
theorem c_X12_targetOf {ad : Nat → Nat} (p1 : Int32) (M : TM) (K : Int32 → TM → Prop) (X : String → TM → Prop) (h : f_X12_targetOf p1 M K X) : XI yX12_targetOf cX12_targetOf 2 (some .int) 8 1 ad [.ref (ad 0), .int p1] M K X := by
  refine XI_of RX12 rfl (by decide +kernel) (Nat.le_of_ble_eq_true rfl) (fun p l e s m below meth c D tc E hr hfl hT => ?_)
  unfold f_X12_targetOf at h
  refine ra_aload_n E dX12_targetOf_0 rfl 0 rfl ?_
  refine ra_iload_n E dX12_targetOf_1 rfl 1 rfl ?_
  refine rx_callAVP (rest := []) E hfl (c_X12_bargeAt _ _ _ _ h) (lq_X12 _) cv_X12_bargeAt ml_X12_144 (by decide) (lm (by decide)) (fun R => ⟨_, cel_0 tc ad R⟩) rfl rfl rfl (Nat.le_of_ble_eq_true rfl) ⟨Nat.le_of_ble_eq_true rfl, Nat.le_of_ble_eq_true rfl⟩ ⟨Nat.le_of_ble_eq_true rfl, Nat.le_of_ble_eq_true rfl⟩ dX12_targetOf_2 hT ⟨Nat.le_of_ble_eq_true rfl, Nat.le_of_ble_eq_true rfl⟩ (fun _ _ hx => hx) (fun o2 M1 h => ?_)
  obtain ⟨q5, q7⟩ := h
  obtain ⟨x3, g4, q5⟩ := q5
  replace h := q7 x3 g4 q5
  subst q5
  refine gf_X1_1 E g4 fl_X12_153 dX12_targetOf_5 ?_
  exact rx_iret E hr dX12_targetOf_8 ⟨Nat.le_of_ble_eq_true rfl, Nat.le_of_ble_eq_true rfl⟩ h
def f_X12_heightOf (p1 : Int32) (M : TM) (K : Int32 → TM → Prop) (X : String → TM → Prop) : Prop := f_X12_bargeAt p1 M (fun o2 M1 => (∃ x3, IsBarge x3 ∧ o2 = some x3) ∧ (∀ x3, IsBarge x3 → o2 = some x3 → K (M1 x3 2) M1)) X
set_option maxRecDepth 100000 in
set_option maxHeartbeats 4000000 in
theorem c_X12_heightOf {ad : Nat → Nat} (p1 : Int32) (M : TM) (K : Int32 → TM → Prop) (X : String → TM → Prop) (h : f_X12_heightOf p1 M K X) : XI yX12_heightOf cX12_heightOf 2 (some .int) 8 1 ad [.ref (ad 0), .int p1] M K X := by
  refine XI_of RX12 rfl (by decide +kernel) (Nat.le_of_ble_eq_true rfl) (fun p l e s m below meth c D tc E hr hfl hT => ?_)
  unfold f_X12_heightOf at h
  refine ra_aload_n E dX12_heightOf_0 rfl 0 rfl ?_
  refine ra_iload_n E dX12_heightOf_1 rfl 1 rfl ?_
  refine rx_callAVP (rest := []) E hfl (c_X12_bargeAt _ _ _ _ h) (lq_X12 _) cv_X12_bargeAt ml_X12_144 (by decide) (lm (by decide)) (fun R => ⟨_, cel_0 tc ad R⟩) rfl rfl rfl (Nat.le_of_ble_eq_true rfl) ⟨Nat.le_of_ble_eq_true rfl, Nat.le_of_ble_eq_true rfl⟩ ⟨Nat.le_of_ble_eq_true rfl, Nat.le_of_ble_eq_true rfl⟩ dX12_heightOf_2 hT ⟨Nat.le_of_ble_eq_true rfl, Nat.le_of_ble_eq_true rfl⟩ (fun _ _ hx => hx) (fun o2 M1 h => ?_)
  obtain ⟨q5, q7⟩ := h
  obtain ⟨x3, g4, q5⟩ := q5
  replace h := q7 x3 g4 q5
  subst q5
  refine gf_X1_2 E g4 fl_X12_156 dX12_heightOf_5 ?_
  exact rx_iret E hr dX12_heightOf_8 ⟨Nat.le_of_ble_eq_true rfl, Nat.le_of_ble_eq_true rfl⟩ h
def f_X12_timeInLock (p1 : Int32) (M : TM) (K : Int32 → TM → Prop) (X : String → TM → Prop) : Prop := f_X12_bargeAt p1 M (fun o2 M1 => (∃ x3, IsBarge x3 ∧ o2 = some x3) ∧ (∀ x3, IsBarge x3 → o2 = some x3 → K (M1 x3 3) M1)) X
set_option maxRecDepth 100000 in
set_option maxHeartbeats 4000000 in
theorem c_X12_timeInLock {ad : Nat → Nat} (p1 : Int32) (M : TM) (K : Int32 → TM → Prop) (X : String → TM → Prop) (h : f_X12_timeInLock p1 M K X) : XI yX12_timeInLock cX12_timeInLock 2 (some .int) 8 1 ad [.ref (ad 0), .int p1] M K X := by
  refine XI_of RX12 rfl (by decide +kernel) (Nat.le_of_ble_eq_true rfl) (fun p l e s m below meth c D tc E hr hfl hT => ?_)
  unfold f_X12_timeInLock at h
  refine ra_aload_n E dX12_timeInLock_0 rfl 0 rfl ?_
  refine ra_iload_n E dX12_timeInLock_1 rfl 1 rfl ?_
  refine rx_callAVP (rest := []) E hfl (c_X12_bargeAt _ _ _ _ h) (lq_X12 _) cv_X12_bargeAt ml_X12_144 (by decide) (lm (by decide)) (fun R => ⟨_, cel_0 tc ad R⟩) rfl rfl rfl (Nat.le_of_ble_eq_true rfl) ⟨Nat.le_of_ble_eq_true rfl, Nat.le_of_ble_eq_true rfl⟩ ⟨Nat.le_of_ble_eq_true rfl, Nat.le_of_ble_eq_true rfl⟩ dX12_timeInLock_2 hT ⟨Nat.le_of_ble_eq_true rfl, Nat.le_of_ble_eq_true rfl⟩ (fun _ _ hx => hx) (fun o2 M1 h => ?_)
  obtain ⟨q5, q7⟩ := h
  obtain ⟨x3, g4, q5⟩ := q5
  replace h := q7 x3 g4 q5
  subst q5
  refine gf_X1_3 E g4 fl_X12_159 dX12_timeInLock_5 ?_
  exact rx_iret E hr dX12_timeInLock_8 ⟨Nat.le_of_ble_eq_true rfl, Nat.le_of_ble_eq_true rfl⟩ h
def f_X12_flour (p1 : Int32) (M : TM) (K : Int32 → TM → Prop) (X : String → TM → Prop) : Prop := f_X12_bargeAt p1 M (fun o2 M1 => (∃ x3, IsBarge x3 ∧ o2 = some x3) ∧ (∀ x3, IsBarge x3 → o2 = some x3 → K (M1 x3 4) M1)) X
set_option maxRecDepth 100000 in
set_option maxHeartbeats 4000000 in
theorem c_X12_flour {ad : Nat → Nat} (p1 : Int32) (M : TM) (K : Int32 → TM → Prop) (X : String → TM → Prop) (h : f_X12_flour p1 M K X) : XI yX12_flour cX12_flour 2 (some .int) 8 1 ad [.ref (ad 0), .int p1] M K X := by
  refine XI_of RX12 rfl (by decide +kernel) (Nat.le_of_ble_eq_true rfl) (fun p l e s m below meth c D tc E hr hfl hT => ?_)
  unfold f_X12_flour at h
  refine ra_aload_n E dX12_flour_0 rfl 0 rfl ?_
  refine ra_iload_n E dX12_flour_1 rfl 1 rfl ?_
  refine rx_callAVP (rest := []) E hfl (c_X12_bargeAt _ _ _ _ h) (lq_X12 _) cv_X12_bargeAt ml_X12_144 (by decide) (lm (by decide)) (fun R => ⟨_, cel_0 tc ad R⟩) rfl rfl rfl (Nat.le_of_ble_eq_true rfl) ⟨Nat.le_of_ble_eq_true rfl, Nat.le_of_ble_eq_true rfl⟩ ⟨Nat.le_of_ble_eq_true rfl, Nat.le_of_ble_eq_true rfl⟩ dX12_flour_2 hT ⟨Nat.le_of_ble_eq_true rfl, Nat.le_of_ble_eq_true rfl⟩ (fun _ _ hx => hx) (fun o2 M1 h => ?_)
  obtain ⟨q5, q7⟩ := h
  obtain ⟨x3, g4, q5⟩ := q5
  replace h := q7 x3 g4 q5
  subst q5
  refine gf_X1_4 E g4 fl_X12_162 dX12_flour_5 ?_
  exact rx_iret E hr dX12_flour_8 ⟨Nat.le_of_ble_eq_true rfl, Nat.le_of_ble_eq_true rfl⟩ h
def f_X12_cleanPairs (p1 : Int32) (M : TM) (K : Int32 → TM → Prop) (X : String → TM → Prop) : Prop := f_X12_bargeAt p1 M (fun o2 M1 => (∃ x3, IsBarge x3 ∧ o2 = some x3) ∧ (∀ x3, IsBarge x3 → o2 = some x3 → K (M1 x3 5) M1)) X
set_option maxRecDepth 100000 in
set_option maxHeartbeats 4000000 in
theorem c_X12_cleanPairs {ad : Nat → Nat} (p1 : Int32) (M : TM) (K : Int32 → TM → Prop) (X : String → TM → Prop) (h : f_X12_cleanPairs p1 M K X) : XI yX12_cleanPairs cX12_cleanPairs 2 (some .int) 8 1 ad [.ref (ad 0), .int p1] M K X := by
  refine XI_of RX12 rfl (by decide +kernel) (Nat.le_of_ble_eq_true rfl) (fun p l e s m below meth c D tc E hr hfl hT => ?_)
  unfold f_X12_cleanPairs at h
  refine ra_aload_n E dX12_cleanPairs_0 rfl 0 rfl ?_
  refine ra_iload_n E dX12_cleanPairs_1 rfl 1 rfl ?_
  refine rx_callAVP (rest := []) E hfl (c_X12_bargeAt _ _ _ _ h) (lq_X12 _) cv_X12_bargeAt ml_X12_144 (by decide) (lm (by decide)) (fun R => ⟨_, cel_0 tc ad R⟩) rfl rfl rfl (Nat.le_of_ble_eq_true rfl) ⟨Nat.le_of_ble_eq_true rfl, Nat.le_of_ble_eq_true rfl⟩ ⟨Nat.le_of_ble_eq_true rfl, Nat.le_of_ble_eq_true rfl⟩ dX12_cleanPairs_2 hT ⟨Nat.le_of_ble_eq_true rfl, Nat.le_of_ble_eq_true rfl⟩ (fun _ _ hx => hx) (fun o2 M1 h => ?_)
  obtain ⟨q5, q7⟩ := h
  obtain ⟨x3, g4, q5⟩ := q5
  replace h := q7 x3 g4 q5
  subst q5
  refine gf_X1_5 E g4 fl_X12_165 dX12_cleanPairs_5 ?_
  exact rx_iret E hr dX12_cleanPairs_8 ⟨Nat.le_of_ble_eq_true rfl, Nat.le_of_ble_eq_true rfl⟩ h
def f_X12_dirtyPairs (p1 : Int32) (M : TM) (K : Int32 → TM → Prop) (X : String → TM → Prop) : Prop := f_X12_bargeAt p1 M (fun o2 M1 => (∃ x3, IsBarge x3 ∧ o2 = some x3) ∧ (∀ x3, IsBarge x3 → o2 = some x3 → K (M1 x3 6) M1)) X
set_option maxRecDepth 100000 in
set_option maxHeartbeats 4000000 in
theorem c_X12_dirtyPairs {ad : Nat → Nat} (p1 : Int32) (M : TM) (K : Int32 → TM → Prop) (X : String → TM → Prop) (h : f_X12_dirtyPairs p1 M K X) : XI yX12_dirtyPairs cX12_dirtyPairs 2 (some .int) 8 1 ad [.ref (ad 0), .int p1] M K X := by
  refine XI_of RX12 rfl (by decide +kernel) (Nat.le_of_ble_eq_true rfl) (fun p l e s m below meth c D tc E hr hfl hT => ?_)
  unfold f_X12_dirtyPairs at h
  refine ra_aload_n E dX12_dirtyPairs_0 rfl 0 rfl ?_
  refine ra_iload_n E dX12_dirtyPairs_1 rfl 1 rfl ?_
  refine rx_callAVP (rest := []) E hfl (c_X12_bargeAt _ _ _ _ h) (lq_X12 _) cv_X12_bargeAt ml_X12_144 (by decide) (lm (by decide)) (fun R => ⟨_, cel_0 tc ad R⟩) rfl rfl rfl (Nat.le_of_ble_eq_true rfl) ⟨Nat.le_of_ble_eq_true rfl, Nat.le_of_ble_eq_true rfl⟩ ⟨Nat.le_of_ble_eq_true rfl, Nat.le_of_ble_eq_true rfl⟩ dX12_dirtyPairs_2 hT ⟨Nat.le_of_ble_eq_true rfl, Nat.le_of_ble_eq_true rfl⟩ (fun _ _ hx => hx) (fun o2 M1 h => ?_)
  obtain ⟨q5, q7⟩ := h
  obtain ⟨x3, g4, q5⟩ := q5
  replace h := q7 x3 g4 q5
  subst q5
  refine gf_X1_6 E g4 fl_X12_168 dX12_dirtyPairs_5 ?_
  exact rx_iret E hr dX12_dirtyPairs_8 ⟨Nat.le_of_ble_eq_true rfl, Nat.le_of_ble_eq_true rfl⟩ h
def f_X12_queueLength (p1 : Int32) (M : TM) (K : Int32 → TM → Prop) (X : String → TM → Prop) : Prop := f_X12_bargeAt p1 M (fun o2 M1 => (∃ x3, IsBarge x3 ∧ o2 = some x3) ∧ (∀ x3, IsBarge x3 → o2 = some x3 → K (M1 x3 8) M1)) X
set_option maxRecDepth 100000 in
set_option maxHeartbeats 4000000 in
theorem c_X12_queueLength {ad : Nat → Nat} (p1 : Int32) (M : TM) (K : Int32 → TM → Prop) (X : String → TM → Prop) (h : f_X12_queueLength p1 M K X) : XI yX12_queueLength cX12_queueLength 2 (some .int) 8 1 ad [.ref (ad 0), .int p1] M K X := by
  refine XI_of RX12 rfl (by decide +kernel) (Nat.le_of_ble_eq_true rfl) (fun p l e s m below meth c D tc E hr hfl hT => ?_)
  unfold f_X12_queueLength at h
  refine ra_aload_n E dX12_queueLength_0 rfl 0 rfl ?_
  refine ra_iload_n E dX12_queueLength_1 rfl 1 rfl ?_
  refine rx_callAVP (rest := []) E hfl (c_X12_bargeAt _ _ _ _ h) (lq_X12 _) cv_X12_bargeAt ml_X12_144 (by decide) (lm (by decide)) (fun R => ⟨_, cel_0 tc ad R⟩) rfl rfl rfl (Nat.le_of_ble_eq_true rfl) ⟨Nat.le_of_ble_eq_true rfl, Nat.le_of_ble_eq_true rfl⟩ ⟨Nat.le_of_ble_eq_true rfl, Nat.le_of_ble_eq_true rfl⟩ dX12_queueLength_2 hT ⟨Nat.le_of_ble_eq_true rfl, Nat.le_of_ble_eq_true rfl⟩ (fun _ _ hx => hx) (fun o2 M1 h => ?_)
  obtain ⟨q5, q7⟩ := h
  obtain ⟨x3, g4, q5⟩ := q5
  replace h := q7 x3 g4 q5
  subst q5
  refine gf_X1_8 E g4 fl_X12_171 dX12_queueLength_5 ?_
  exact rx_iret E hr dX12_queueLength_8 ⟨Nat.le_of_ble_eq_true rfl, Nat.le_of_ble_eq_true rfl⟩ h
def f_X12_queuedOrder (p1 : Int32) (p2 : Int32) (M : TM) (K : Int32 → TM → Prop) (X : String → TM → Prop) : Prop := f_X12_bargeAt p1 M (fun o2 M1 => (∃ x3, IsBarge x3 ∧ o2 = some x3) ∧ (∀ x3, IsBarge x3 → o2 = some x3 → f_X1_queuedAt x3 p2 M1 (fun r9 M8 => K r9 M8))) X
set_option maxRecDepth 100000 in
set_option maxHeartbeats 4000000 in
theorem c_X12_queuedOrder {ad : Nat → Nat} (p1 : Int32) (p2 : Int32) (M : TM) (K : Int32 → TM → Prop) (X : String → TM → Prop) (h : f_X12_queuedOrder p1 p2 M K X) : XI yX12_queuedOrder cX12_queuedOrder 3 (some .int) 8 1 ad [.ref (ad 0), .int p1, .int p2] M K X := by
  refine XI_of RX12 rfl (by decide +kernel) (Nat.le_of_ble_eq_true rfl) (fun p l e s m below meth c D tc E hr hfl hT => ?_)
  unfold f_X12_queuedOrder at h
  refine ra_aload_n E dX12_queuedOrder_0 rfl 0 rfl ?_
  refine ra_iload_n E dX12_queuedOrder_1 rfl 1 rfl ?_
  refine rx_callAVP (rest := []) E hfl (c_X12_bargeAt _ _ _ _ h) (lq_X12 _) cv_X12_bargeAt ml_X12_144 (by decide) (lm (by decide)) (fun R => ⟨_, cel_0 tc ad R⟩) rfl rfl rfl (Nat.le_of_ble_eq_true rfl) ⟨Nat.le_of_ble_eq_true rfl, Nat.le_of_ble_eq_true rfl⟩ ⟨Nat.le_of_ble_eq_true rfl, Nat.le_of_ble_eq_true rfl⟩ dX12_queuedOrder_2 hT ⟨Nat.le_of_ble_eq_true rfl, Nat.le_of_ble_eq_true rfl⟩ (fun _ _ hx => hx) (fun o2 M1 h => ?_)
  obtain ⟨q5, q7⟩ := h
  obtain ⟨x3, g4, q5⟩ := q5
  replace h := q7 x3 g4 q5
  subst q5
  refine ra_iload_n E dX12_queuedOrder_5 rfl 2 rfl ?_
  refine ra_callIV (rest := []) E (c_X1_queuedAt _ g4 _ _ _ h) (lq_X1 _) cv_X1_queuedAt ml_X12_174 (by decide) (lm (Nat.lt_of_succ_lt g4.lt)) (fun R => ⟨_, cel_barge tc ad g4 R⟩) rfl rfl rfl (Nat.le_of_ble_eq_true rfl) ⟨Nat.le_of_ble_eq_true rfl, Nat.le_of_ble_eq_true rfl⟩ ⟨Nat.le_of_ble_eq_true rfl, Nat.le_of_ble_eq_true rfl⟩ dX12_queuedOrder_6 (fun r9 M8 h => ?_)
  exact rx_iret E hr dX12_queuedOrder_9 ⟨Nat.le_of_ble_eq_true rfl, Nat.le_of_ble_eq_true rfl⟩ h
def f_X12_readyCount (p1 : Int32) (M : TM) (K : Int32 → TM → Prop) (X : String → TM → Prop) : Prop := f_X12_requireBarge p1 M (fun M1 => vp_in (M1 0 5) 11 ∧ f_X2_countHeldBy (27 + 61 * (M1 0 5).toNatClampNeg) p1 M1 (fun r4 M3 => f_X12_bargeAt p1 M3 (fun o6 M5 => (∃ x7, IsBarge x7 ∧ o6 = some x7) ∧ (∀ x7, IsBarge x7 → o6 = some x7 → K (r4 - (M5 x7 8)) M5)) X)) X
set_option maxRecDepth 100000 in
set_option maxHeartbeats 4000000 in
theorem c_X12_readyCount {ad : Nat → Nat} (p1 : Int32) (M : TM) (K : Int32 → TM → Prop) (X : String → TM → Prop) (h : f_X12_readyCount p1 M K X) : XI yX12_readyCount cX12_readyCount 2 (some .int) 8 2 ad [.ref (ad 0), .int p1] M K X := by
  refine XI_of RX12 rfl (by decide +kernel) (Nat.le_of_ble_eq_true rfl) (fun p l e s m below meth c D tc E hr hfl hT => ?_)
  unfold f_X12_readyCount at h
  refine ra_aload_n E dX12_readyCount_0 rfl 0 rfl ?_
  refine ra_iload_n E dX12_readyCount_1 rfl 1 rfl ?_
  refine rx_callVVP (rest := []) E hfl (c_X12_requireBarge _ _ _ _ h) (lq_X12 _) cv_X12_requireBarge ml_X12_177 (by decide) (lm (by decide)) (fun R => ⟨_, cel_0 tc ad R⟩) rfl rfl rfl (Nat.le_of_ble_eq_true rfl) ⟨Nat.le_of_ble_eq_true rfl, Nat.le_of_ble_eq_true rfl⟩ ⟨Nat.le_of_ble_eq_true rfl, Nat.le_of_ble_eq_true rfl⟩ dX12_readyCount_2 hT ⟨Nat.le_of_ble_eq_true rfl, Nat.le_of_ble_eq_true rfl⟩ (fun _ _ hx => hx) (fun M1 h => ?_)
  refine ra_aload_n E dX12_readyCount_5 rfl 0 rfl ?_
  obtain ⟨g2, h⟩ := h
  refine gf_X12_5 E fl_X12_41 dX12_readyCount_6 ?_
  refine ra_iload_n E dX12_readyCount_9 rfl 1 rfl ?_
  refine ra_callIV (rest := []) E (c_X2_countHeldBy _ (isCanal_of g2) _ _ _ h) (lq_X2 _) cv_X2_countHeldBy ml_X12_180 (by decide) (lm ((isCanal_of g2).add (j := 0) (by decide))) (fun R => ⟨_, cel_canal tc ad (isCanal_of g2) R⟩) rfl rfl rfl (Nat.le_of_ble_eq_true rfl) ⟨Nat.le_of_ble_eq_true rfl, Nat.le_of_ble_eq_true rfl⟩ ⟨Nat.le_of_ble_eq_true rfl, Nat.le_of_ble_eq_true rfl⟩ dX12_readyCount_10 (fun r4 M3 h => ?_)
  refine ra_aload_n E dX12_readyCount_13 rfl 0 rfl ?_
  refine ra_iload_n E dX12_readyCount_14 rfl 1 rfl ?_
  refine rx_callAVP (rest := [_]) E hfl (c_X12_bargeAt _ _ _ _ h) (lq_X12 _) cv_X12_bargeAt ml_X12_144 (by decide) (lm (by decide)) (fun R => ⟨_, cel_0 tc ad R⟩) rfl rfl rfl (Nat.le_of_ble_eq_true rfl) ⟨Nat.le_of_ble_eq_true rfl, Nat.le_of_ble_eq_true rfl⟩ ⟨Nat.le_of_ble_eq_true rfl, Nat.le_of_ble_eq_true rfl⟩ dX12_readyCount_15 hT ⟨Nat.le_of_ble_eq_true rfl, Nat.le_of_ble_eq_true rfl⟩ (fun _ _ hx => hx) (fun o6 M5 h => ?_)
  obtain ⟨q9, q11⟩ := h
  obtain ⟨x7, g8, q9⟩ := q9
  replace h := q11 x7 g8 q9
  subst q9
  refine gf_X1_8 E g8 fl_X12_171 dX12_readyCount_18 ?_
  refine ra_isub E dX12_readyCount_21 ?_
  exact rx_iret E hr dX12_readyCount_22 ⟨Nat.le_of_ble_eq_true rfl, Nat.le_of_ble_eq_true rfl⟩ h
def f_X12_flourNeeded (p1 : Int32) (M : TM) (K : Int32 → TM → Prop) (X : String → TM → Prop) : Prop := vp_in (M 0 5) 11 ∧ f_X12_bargeAt p1 M (fun o3 M2 => (∃ x4, IsBarge x4 ∧ o3 = some x4) ∧ (∀ x4, IsBarge x4 → o3 = some x4 → f_X2_bowlsNotBegun (27 + 61 * (M 0 5).toNatClampNeg) x4 M2 (fun r10 M9 => K r10 M9))) X
set_option maxRecDepth 100000 in
set_option maxHeartbeats 4000000 in
theorem c_X12_flourNeeded {ad : Nat → Nat} (p1 : Int32) (M : TM) (K : Int32 → TM → Prop) (X : String → TM → Prop) (h : f_X12_flourNeeded p1 M K X) : XI yX12_flourNeeded cX12_flourNeeded 2 (some .int) 8 1 ad [.ref (ad 0), .int p1] M K X := by
  refine XI_of RX12 rfl (by decide +kernel) (Nat.le_of_ble_eq_true rfl) (fun p l e s m below meth c D tc E hr hfl hT => ?_)
  unfold f_X12_flourNeeded at h
  refine ra_aload_n E dX12_flourNeeded_0 rfl 0 rfl ?_
  obtain ⟨g1, h⟩ := h
  refine gf_X12_5 E fl_X12_41 dX12_flourNeeded_1 ?_
  refine ra_aload_n E dX12_flourNeeded_4 rfl 0 rfl ?_
  refine ra_iload_n E dX12_flourNeeded_5 rfl 1 rfl ?_
  refine rx_callAVP (rest := [_]) E hfl (c_X12_bargeAt _ _ _ _ h) (lq_X12 _) cv_X12_bargeAt ml_X12_144 (by decide) (lm (by decide)) (fun R => ⟨_, cel_0 tc ad R⟩) rfl rfl rfl (Nat.le_of_ble_eq_true rfl) ⟨Nat.le_of_ble_eq_true rfl, Nat.le_of_ble_eq_true rfl⟩ ⟨Nat.le_of_ble_eq_true rfl, Nat.le_of_ble_eq_true rfl⟩ dX12_flourNeeded_6 hT ⟨Nat.le_of_ble_eq_true rfl, Nat.le_of_ble_eq_true rfl⟩ (fun _ _ hx => hx) (fun o3 M2 h => ?_)
  obtain ⟨q6, q8⟩ := h
  obtain ⟨x4, g5, q6⟩ := q6
  replace h := q8 x4 g5 q6
  subst q6
  refine ra_callIV (rest := []) E (c_X2_bowlsNotBegun _ (isCanal_of g1) _ g5 _ _ h) (lq_X2 _) cv_X2_bowlsNotBegun ml_X12_183 (by decide) (lm ((isCanal_of g1).add (j := 0) (by decide))) (fun R => ⟨_, cel_canal tc ad (isCanal_of g1) R⟩) rfl rfl rfl (Nat.le_of_ble_eq_true rfl) ⟨Nat.le_of_ble_eq_true rfl, Nat.le_of_ble_eq_true rfl⟩ ⟨Nat.le_of_ble_eq_true rfl, Nat.le_of_ble_eq_true rfl⟩ dX12_flourNeeded_9 (fun r10 M9 h => ?_)
  exact rx_iret E hr dX12_flourNeeded_12 ⟨Nat.le_of_ble_eq_true rfl, Nat.le_of_ble_eq_true rfl⟩ h
def f_X12_orderPlace (p1 : Int32) (M : TM) (K : Int32 → TM → Prop) (X : String → TM → Prop) : Prop := f_X12_orderAt p1 M (fun o2 M1 => (∃ x3, IsOrder x3 ∧ o2 = some x3) ∧ (∀ x3, IsOrder x3 → o2 = some x3 → K (M1 x3 0) M1)) X
set_option maxRecDepth 100000 in
set_option maxHeartbeats 4000000 in
theorem c_X12_orderPlace {ad : Nat → Nat} (p1 : Int32) (M : TM) (K : Int32 → TM → Prop) (X : String → TM → Prop) (h : f_X12_orderPlace p1 M K X) : XI yX12_orderPlace cX12_orderPlace 2 (some .int) 8 1 ad [.ref (ad 0), .int p1] M K X := by
  refine XI_of RX12 rfl (by decide +kernel) (Nat.le_of_ble_eq_true rfl) (fun p l e s m below meth c D tc E hr hfl hT => ?_)
  unfold f_X12_orderPlace at h
  refine ra_aload_n E dX12_orderPlace_0 rfl 0 rfl ?_
  refine ra_iload_n E dX12_orderPlace_1 rfl 1 rfl ?_
  refine rx_callAVP (rest := []) E hfl (c_X12_orderAt _ _ _ _ h) (lq_X12 _) cv_X12_orderAt ml_X12_190 (by decide) (lm (by decide)) (fun R => ⟨_, cel_0 tc ad R⟩) rfl rfl rfl (Nat.le_of_ble_eq_true rfl) ⟨Nat.le_of_ble_eq_true rfl, Nat.le_of_ble_eq_true rfl⟩ ⟨Nat.le_of_ble_eq_true rfl, Nat.le_of_ble_eq_true rfl⟩ dX12_orderPlace_2 hT ⟨Nat.le_of_ble_eq_true rfl, Nat.le_of_ble_eq_true rfl⟩ (fun _ _ hx => hx) (fun o2 M1 h => ?_)
  obtain ⟨q5, q7⟩ := h
  obtain ⟨x3, g4, q5⟩ := q5
  replace h := q7 x3 g4 q5
  subst q5
  refine gf_X6_0 E g4 fl_X12_194 dX12_orderPlace_5 ?_
  exact rx_iret E hr dX12_orderPlace_8 ⟨Nat.le_of_ble_eq_true rfl, Nat.le_of_ble_eq_true rfl⟩ h
def f_X12_bowls (p1 : Int32) (M : TM) (K : Int32 → TM → Prop) (X : String → TM → Prop) : Prop := f_X12_orderAt p1 M (fun o2 M1 => (∃ x3, IsOrder x3 ∧ o2 = some x3) ∧ (∀ x3, IsOrder x3 → o2 = some x3 → K (M1 x3 1) M1)) X
set_option maxRecDepth 100000 in
set_option maxHeartbeats 4000000 in
theorem c_X12_bowls {ad : Nat → Nat} (p1 : Int32) (M : TM) (K : Int32 → TM → Prop) (X : String → TM → Prop) (h : f_X12_bowls p1 M K X) : XI yX12_bowls cX12_bowls 2 (some .int) 8 1 ad [.ref (ad 0), .int p1] M K X := by
  refine XI_of RX12 rfl (by decide +kernel) (Nat.le_of_ble_eq_true rfl) (fun p l e s m below meth c D tc E hr hfl hT => ?_)
  unfold f_X12_bowls at h
  refine ra_aload_n E dX12_bowls_0 rfl 0 rfl ?_
  refine ra_iload_n E dX12_bowls_1 rfl 1 rfl ?_
  refine rx_callAVP (rest := []) E hfl (c_X12_orderAt _ _ _ _ h) (lq_X12 _) cv_X12_orderAt ml_X12_190 (by decide) (lm (by decide)) (fun R => ⟨_, cel_0 tc ad R⟩) rfl rfl rfl (Nat.le_of_ble_eq_true rfl) ⟨Nat.le_of_ble_eq_true rfl, Nat.le_of_ble_eq_true rfl⟩ ⟨Nat.le_of_ble_eq_true rfl, Nat.le_of_ble_eq_true rfl⟩ dX12_bowls_2 hT ⟨Nat.le_of_ble_eq_true rfl, Nat.le_of_ble_eq_true rfl⟩ (fun _ _ hx => hx) (fun o2 M1 h => ?_)
  obtain ⟨q5, q7⟩ := h
  obtain ⟨x3, g4, q5⟩ := q5
  replace h := q7 x3 g4 q5
  subst q5
  refine gf_X6_1 E g4 fl_X12_197 dX12_bowls_5 ?_
  exact rx_iret E hr dX12_bowls_8 ⟨Nat.le_of_ble_eq_true rfl, Nat.le_of_ble_eq_true rfl⟩ h
def f_X12_pullsLeft (p1 : Int32) (M : TM) (K : Int32 → TM → Prop) (X : String → TM → Prop) : Prop := f_X12_orderAt p1 M (fun o2 M1 => (∃ x3, IsOrder x3 ∧ o2 = some x3) ∧ (∀ x3, IsOrder x3 → o2 = some x3 → K (M1 x3 3) M1)) X
set_option maxRecDepth 100000 in
set_option maxHeartbeats 4000000 in
theorem c_X12_pullsLeft {ad : Nat → Nat} (p1 : Int32) (M : TM) (K : Int32 → TM → Prop) (X : String → TM → Prop) (h : f_X12_pullsLeft p1 M K X) : XI yX12_pullsLeft cX12_pullsLeft 2 (some .int) 8 1 ad [.ref (ad 0), .int p1] M K X := by
  refine XI_of RX12 rfl (by decide +kernel) (Nat.le_of_ble_eq_true rfl) (fun p l e s m below meth c D tc E hr hfl hT => ?_)
  unfold f_X12_pullsLeft at h
  refine ra_aload_n E dX12_pullsLeft_0 rfl 0 rfl ?_
  refine ra_iload_n E dX12_pullsLeft_1 rfl 1 rfl ?_
  refine rx_callAVP (rest := []) E hfl (c_X12_orderAt _ _ _ _ h) (lq_X12 _) cv_X12_orderAt ml_X12_190 (by decide) (lm (by decide)) (fun R => ⟨_, cel_0 tc ad R⟩) rfl rfl rfl (Nat.le_of_ble_eq_true rfl) ⟨Nat.le_of_ble_eq_true rfl, Nat.le_of_ble_eq_true rfl⟩ ⟨Nat.le_of_ble_eq_true rfl, Nat.le_of_ble_eq_true rfl⟩ dX12_pullsLeft_2 hT ⟨Nat.le_of_ble_eq_true rfl, Nat.le_of_ble_eq_true rfl⟩ (fun _ _ hx => hx) (fun o2 M1 h => ?_)
  obtain ⟨q5, q7⟩ := h
  obtain ⟨x3, g4, q5⟩ := q5
  replace h := q7 x3 g4 q5
  subst q5
  refine gf_X6_3 E g4 fl_X12_200 dX12_pullsLeft_5 ?_
  exact rx_iret E hr dX12_pullsLeft_8 ⟨Nat.le_of_ble_eq_true rfl, Nat.le_of_ble_eq_true rfl⟩ h
def f_X12_deadline (p1 : Int32) (M : TM) (K : Int32 → TM → Prop) (X : String → TM → Prop) : Prop := f_X12_orderAt p1 M (fun o2 M1 => (∃ x3, IsOrder x3 ∧ o2 = some x3) ∧ (∀ x3, IsOrder x3 → o2 = some x3 → K (M1 x3 4) M1)) X
set_option maxRecDepth 100000 in
set_option maxHeartbeats 4000000 in
theorem c_X12_deadline {ad : Nat → Nat} (p1 : Int32) (M : TM) (K : Int32 → TM → Prop) (X : String → TM → Prop) (h : f_X12_deadline p1 M K X) : XI yX12_deadline cX12_deadline 2 (some .int) 8 1 ad [.ref (ad 0), .int p1] M K X := by
  refine XI_of RX12 rfl (by decide +kernel) (Nat.le_of_ble_eq_true rfl) (fun p l e s m below meth c D tc E hr hfl hT => ?_)
  unfold f_X12_deadline at h
  refine ra_aload_n E dX12_deadline_0 rfl 0 rfl ?_
  refine ra_iload_n E dX12_deadline_1 rfl 1 rfl ?_
  refine rx_callAVP (rest := []) E hfl (c_X12_orderAt _ _ _ _ h) (lq_X12 _) cv_X12_orderAt ml_X12_190 (by decide) (lm (by decide)) (fun R => ⟨_, cel_0 tc ad R⟩) rfl rfl rfl (Nat.le_of_ble_eq_true rfl) ⟨Nat.le_of_ble_eq_true rfl, Nat.le_of_ble_eq_true rfl⟩ ⟨Nat.le_of_ble_eq_true rfl, Nat.le_of_ble_eq_true rfl⟩ dX12_deadline_2 hT ⟨Nat.le_of_ble_eq_true rfl, Nat.le_of_ble_eq_true rfl⟩ (fun _ _ hx => hx) (fun o2 M1 h => ?_)
  obtain ⟨q5, q7⟩ := h
  obtain ⟨x3, g4, q5⟩ := q5
  replace h := q7 x3 g4 q5
  subst q5
  refine gf_X6_4 E g4 fl_X12_203 dX12_deadline_5 ?_
  exact rx_iret E hr dX12_deadline_8 ⟨Nat.le_of_ble_eq_true rfl, Nat.le_of_ble_eq_true rfl⟩ h
def f_X12_price (p1 : Int32) (M : TM) (K : Int32 → TM → Prop) (X : String → TM → Prop) : Prop := f_X12_orderAt p1 M (fun o2 M1 => (∃ x3, IsOrder x3 ∧ o2 = some x3) ∧ (∀ x3, IsOrder x3 → o2 = some x3 → f_X6_worth x3 M1 (fun r9 M8 => K r9 M8))) X
set_option maxRecDepth 100000 in
set_option maxHeartbeats 4000000 in
theorem c_X12_price {ad : Nat → Nat} (p1 : Int32) (M : TM) (K : Int32 → TM → Prop) (X : String → TM → Prop) (h : f_X12_price p1 M K X) : XI yX12_price cX12_price 2 (some .int) 8 1 ad [.ref (ad 0), .int p1] M K X := by
  refine XI_of RX12 rfl (by decide +kernel) (Nat.le_of_ble_eq_true rfl) (fun p l e s m below meth c D tc E hr hfl hT => ?_)
  unfold f_X12_price at h
  refine ra_aload_n E dX12_price_0 rfl 0 rfl ?_
  refine ra_iload_n E dX12_price_1 rfl 1 rfl ?_
  refine rx_callAVP (rest := []) E hfl (c_X12_orderAt _ _ _ _ h) (lq_X12 _) cv_X12_orderAt ml_X12_190 (by decide) (lm (by decide)) (fun R => ⟨_, cel_0 tc ad R⟩) rfl rfl rfl (Nat.le_of_ble_eq_true rfl) ⟨Nat.le_of_ble_eq_true rfl, Nat.le_of_ble_eq_true rfl⟩ ⟨Nat.le_of_ble_eq_true rfl, Nat.le_of_ble_eq_true rfl⟩ dX12_price_2 hT ⟨Nat.le_of_ble_eq_true rfl, Nat.le_of_ble_eq_true rfl⟩ (fun _ _ hx => hx) (fun o2 M1 h => ?_)
  obtain ⟨q5, q7⟩ := h
  obtain ⟨x3, g4, q5⟩ := q5
  replace h := q7 x3 g4 q5
  subst q5
  refine ra_callIV (rest := []) E (c_X6_worth _ g4 _ _ h) (lq_X6 _) cv_X6_worth ml_X12_206 (by decide) (lm g4.lt) (fun R => ⟨_, cel_order tc ad g4 R⟩) rfl rfl rfl (Nat.le_of_ble_eq_true rfl) ⟨Nat.le_of_ble_eq_true rfl, Nat.le_of_ble_eq_true rfl⟩ ⟨Nat.le_of_ble_eq_true rfl, Nat.le_of_ble_eq_true rfl⟩ dX12_price_5 (fun r9 M8 h => ?_)
  exact rx_iret E hr dX12_price_8 ⟨Nat.le_of_ble_eq_true rfl, Nat.le_of_ble_eq_true rfl⟩ h
def f_X12_bargeOf (p1 : Int32) (M : TM) (K : Int32 → TM → Prop) (X : String → TM → Prop) : Prop := f_X12_orderAt p1 M (fun o2 M1 => (∃ x3, IsOrder x3 ∧ o2 = some x3) ∧ (∀ x3, IsOrder x3 → o2 = some x3 → K (M1 x3 7) M1)) X
set_option maxRecDepth 100000 in
set_option maxHeartbeats 4000000 in
theorem c_X12_bargeOf {ad : Nat → Nat} (p1 : Int32) (M : TM) (K : Int32 → TM → Prop) (X : String → TM → Prop) (h : f_X12_bargeOf p1 M K X) : XI yX12_bargeOf cX12_bargeOf 2 (some .int) 8 1 ad [.ref (ad 0), .int p1] M K X := by
  refine XI_of RX12 rfl (by decide +kernel) (Nat.le_of_ble_eq_true rfl) (fun p l e s m below meth c D tc E hr hfl hT => ?_)
  unfold f_X12_bargeOf at h
  refine ra_aload_n E dX12_bargeOf_0 rfl 0 rfl ?_
  refine ra_iload_n E dX12_bargeOf_1 rfl 1 rfl ?_
  refine rx_callAVP (rest := []) E hfl (c_X12_orderAt _ _ _ _ h) (lq_X12 _) cv_X12_orderAt ml_X12_190 (by decide) (lm (by decide)) (fun R => ⟨_, cel_0 tc ad R⟩) rfl rfl rfl (Nat.le_of_ble_eq_true rfl) ⟨Nat.le_of_ble_eq_true rfl, Nat.le_of_ble_eq_true rfl⟩ ⟨Nat.le_of_ble_eq_true rfl, Nat.le_of_ble_eq_true rfl⟩ dX12_bargeOf_2 hT ⟨Nat.le_of_ble_eq_true rfl, Nat.le_of_ble_eq_true rfl⟩ (fun _ _ hx => hx) (fun o2 M1 h => ?_)
  obtain ⟨q5, q7⟩ := h
  obtain ⟨x3, g4, q5⟩ := q5
  replace h := q7 x3 g4 q5
  subst q5
  refine gf_X6_7 E g4 fl_X12_209 dX12_bargeOf_5 ?_
  exact rx_iret E hr dX12_bargeOf_8 ⟨Nat.le_of_ble_eq_true rfl, Nat.le_of_ble_eq_true rfl⟩ h
def f_X12_isOpen (p1 : Int32) (M : TM) (K : Int32 → TM → Prop) (X : String → TM → Prop) : Prop := f_X12_orderAt p1 M (fun o2 M1 => (∃ x3, IsOrder x3 ∧ o2 = some x3) ∧ (∀ x3, IsOrder x3 → o2 = some x3 → vp_in (M1 x3 6) 5 ∧ ((¬ (M1 x3 6) = (0 : Int32) → K (0 : Int32) M1) ∧ ((M1 x3 6) = (0 : Int32) → K (1 : Int32) M1)))) X
set_option maxRecDepth 100000 in
set_option maxHeartbeats 4000000 in
theorem c_X12_isOpen {ad : Nat → Nat} (p1 : Int32) (M : TM) (K : Int32 → TM → Prop) (X : String → TM → Prop) (h : f_X12_isOpen p1 M K X) : XI yX12_isOpen cX12_isOpen 2 (some .boolean) 8 1 ad [.ref (ad 0), .int p1] M (fun r M' => (r = 0 ∨ r = 1) ∧ K r M') X := by
  refine XI_of RX12 rfl (by decide +kernel) (Nat.le_of_ble_eq_true rfl) (fun p l e s m below meth c D tc E hr hfl hT => ?_)
  unfold f_X12_isOpen at h
  refine ra_aload_n E dX12_isOpen_0 rfl 0 rfl ?_
  refine ra_iload_n E dX12_isOpen_1 rfl 1 rfl ?_
  refine rx_callAVP (rest := []) E hfl (c_X12_orderAt _ _ _ _ h) (lq_X12 _) cv_X12_orderAt ml_X12_190 (by decide) (lm (by decide)) (fun R => ⟨_, cel_0 tc ad R⟩) rfl rfl rfl (Nat.le_of_ble_eq_true rfl) ⟨Nat.le_of_ble_eq_true rfl, Nat.le_of_ble_eq_true rfl⟩ ⟨Nat.le_of_ble_eq_true rfl, Nat.le_of_ble_eq_true rfl⟩ dX12_isOpen_2 hT ⟨Nat.le_of_ble_eq_true rfl, Nat.le_of_ble_eq_true rfl⟩ (fun _ _ hx => hx) (fun o2 M1 h => ?_)
  obtain ⟨q5, q7⟩ := h
  obtain ⟨x3, g4, q5⟩ := q5
  replace h := q7 x3 g4 q5
  subst q5
  refine gf_X6_6 E g4 fl_X12_212 dX12_isOpen_5 ?_
  refine gs_O (i := 0) E 0 (by decide) rfl (by decide) fl_X12_216 dX12_isOpen_8 ?_
  obtain ⟨g9, h⟩ := h
  refine acmpO_ne (tgt := 18) E g9 (vpl _ _ (by decide)) dX12_isOpen_11 (by decide) (fun q8 => ?_) (fun q8 => ?_)
  · replace h := h.1 q8
    refine ra_iconst E dX12_isOpen_18 ki_0 ?_
    exact rx_zret E hr rfl dX12_isOpen_19 ⟨Nat.le_of_ble_eq_true rfl, Nat.le_of_ble_eq_true rfl⟩ ⟨Or.inl rfl, h⟩
  · replace h := h.2 q8
    refine ra_iconst E dX12_isOpen_14 ki_1 ?_
    refine ra_goto (tgt := 19) E dX12_isOpen_15 (by decide) ?_
    exact rx_zret E hr rfl dX12_isOpen_19 ⟨Nat.le_of_ble_eq_true rfl, Nat.le_of_ble_eq_true rfl⟩ ⟨Or.inr rfl, h⟩
def f_X12_isReady (p1 : Int32) (M : TM) (K : Int32 → TM → Prop) (X : String → TM → Prop) : Prop := f_X12_orderAt p1 M (fun o2 M1 => (∃ x3, IsOrder x3 ∧ o2 = some x3) ∧ (∀ x3, IsOrder x3 → o2 = some x3 → vp_in (M1 x3 6) 5 ∧ ((¬ (M1 x3 6) = (2 : Int32) → K (0 : Int32) M1) ∧ ((M1 x3 6) = (2 : Int32) → K (1 : Int32) M1)))) X
set_option maxRecDepth 100000 in
set_option maxHeartbeats 4000000 in
theorem c_X12_isReady {ad : Nat → Nat} (p1 : Int32) (M : TM) (K : Int32 → TM → Prop) (X : String → TM → Prop) (h : f_X12_isReady p1 M K X) : XI yX12_isReady cX12_isReady 2 (some .boolean) 8 1 ad [.ref (ad 0), .int p1] M (fun r M' => (r = 0 ∨ r = 1) ∧ K r M') X := by
  refine XI_of RX12 rfl (by decide +kernel) (Nat.le_of_ble_eq_true rfl) (fun p l e s m below meth c D tc E hr hfl hT => ?_)
  unfold f_X12_isReady at h
  refine ra_aload_n E dX12_isReady_0 rfl 0 rfl ?_
  refine ra_iload_n E dX12_isReady_1 rfl 1 rfl ?_
  refine rx_callAVP (rest := []) E hfl (c_X12_orderAt _ _ _ _ h) (lq_X12 _) cv_X12_orderAt ml_X12_190 (by decide) (lm (by decide)) (fun R => ⟨_, cel_0 tc ad R⟩) rfl rfl rfl (Nat.le_of_ble_eq_true rfl) ⟨Nat.le_of_ble_eq_true rfl, Nat.le_of_ble_eq_true rfl⟩ ⟨Nat.le_of_ble_eq_true rfl, Nat.le_of_ble_eq_true rfl⟩ dX12_isReady_2 hT ⟨Nat.le_of_ble_eq_true rfl, Nat.le_of_ble_eq_true rfl⟩ (fun _ _ hx => hx) (fun o2 M1 h => ?_)
  obtain ⟨q5, q7⟩ := h
  obtain ⟨x3, g4, q5⟩ := q5
  replace h := q7 x3 g4 q5
  subst q5
  refine gf_X6_6 E g4 fl_X12_212 dX12_isReady_5 ?_
  refine gs_O (i := 2) E 2 (by decide) rfl (by decide) fl_X12_221 dX12_isReady_8 ?_
  obtain ⟨g9, h⟩ := h
  refine acmpO_ne (tgt := 18) E g9 (vpl _ _ (by decide)) dX12_isReady_11 (by decide) (fun q8 => ?_) (fun q8 => ?_)
  · replace h := h.1 q8
    refine ra_iconst E dX12_isReady_18 ki_0 ?_
    exact rx_zret E hr rfl dX12_isReady_19 ⟨Nat.le_of_ble_eq_true rfl, Nat.le_of_ble_eq_true rfl⟩ ⟨Or.inl rfl, h⟩
  · replace h := h.2 q8
    refine ra_iconst E dX12_isReady_14 ki_1 ?_
    refine ra_goto (tgt := 19) E dX12_isReady_15 (by decide) ?_
    exact rx_zret E hr rfl dX12_isReady_19 ⟨Nat.le_of_ble_eq_true rfl, Nat.le_of_ble_eq_true rfl⟩ ⟨Or.inr rfl, h⟩
def f_X12_isEaten (p1 : Int32) (M : TM) (K : Int32 → TM → Prop) (X : String → TM → Prop) : Prop := f_X12_orderAt p1 M (fun o2 M1 => (∃ x3, IsOrder x3 ∧ o2 = some x3) ∧ (∀ x3, IsOrder x3 → o2 = some x3 → vp_in (M1 x3 6) 5 ∧ ((¬ (M1 x3 6) = (3 : Int32) → K (0 : Int32) M1) ∧ ((M1 x3 6) = (3 : Int32) → K (1 : Int32) M1)))) X
set_option maxRecDepth 100000 in
set_option maxHeartbeats 4000000 in
theorem c_X12_isEaten {ad : Nat → Nat} (p1 : Int32) (M : TM) (K : Int32 → TM → Prop) (X : String → TM → Prop) (h : f_X12_isEaten p1 M K X) : XI yX12_isEaten cX12_isEaten 2 (some .boolean) 8 1 ad [.ref (ad 0), .int p1] M (fun r M' => (r = 0 ∨ r = 1) ∧ K r M') X := by
  refine XI_of RX12 rfl (by decide +kernel) (Nat.le_of_ble_eq_true rfl) (fun p l e s m below meth c D tc E hr hfl hT => ?_)
  unfold f_X12_isEaten at h
  refine ra_aload_n E dX12_isEaten_0 rfl 0 rfl ?_
  refine ra_iload_n E dX12_isEaten_1 rfl 1 rfl ?_
  refine rx_callAVP (rest := []) E hfl (c_X12_orderAt _ _ _ _ h) (lq_X12 _) cv_X12_orderAt ml_X12_190 (by decide) (lm (by decide)) (fun R => ⟨_, cel_0 tc ad R⟩) rfl rfl rfl (Nat.le_of_ble_eq_true rfl) ⟨Nat.le_of_ble_eq_true rfl, Nat.le_of_ble_eq_true rfl⟩ ⟨Nat.le_of_ble_eq_true rfl, Nat.le_of_ble_eq_true rfl⟩ dX12_isEaten_2 hT ⟨Nat.le_of_ble_eq_true rfl, Nat.le_of_ble_eq_true rfl⟩ (fun _ _ hx => hx) (fun o2 M1 h => ?_)
  obtain ⟨q5, q7⟩ := h
  obtain ⟨x3, g4, q5⟩ := q5
  replace h := q7 x3 g4 q5
  subst q5
  refine gf_X6_6 E g4 fl_X12_212 dX12_isEaten_5 ?_
  refine gs_O (i := 3) E 3 (by decide) rfl (by decide) fl_X12_224 dX12_isEaten_8 ?_
  obtain ⟨g9, h⟩ := h
  refine acmpO_ne (tgt := 18) E g9 (vpl _ _ (by decide)) dX12_isEaten_11 (by decide) (fun q8 => ?_) (fun q8 => ?_)
  · replace h := h.1 q8
    refine ra_iconst E dX12_isEaten_18 ki_0 ?_
    exact rx_zret E hr rfl dX12_isEaten_19 ⟨Nat.le_of_ble_eq_true rfl, Nat.le_of_ble_eq_true rfl⟩ ⟨Or.inl rfl, h⟩
  · replace h := h.2 q8
    refine ra_iconst E dX12_isEaten_14 ki_1 ?_
    refine ra_goto (tgt := 19) E dX12_isEaten_15 (by decide) ?_
    exact rx_zret E hr rfl dX12_isEaten_19 ⟨Nat.le_of_ble_eq_true rfl, Nat.le_of_ble_eq_true rfl⟩ ⟨Or.inr rfl, h⟩
def f_X12_nearestBarge (p1 : Int32) (M : TM) (K : Int32 → TM → Prop) (X : String → TM → Prop) : Prop := vp_in (M 0 5) 11 ∧ f_X12_orderAt p1 M (fun o3 M2 => (∃ x4, IsOrder x4 ∧ o3 = some x4) ∧ (∀ x4, IsOrder x4 → o3 = some x4 → f_X2_bargeNearestTo (27 + 61 * (M 0 5).toNatClampNeg) (M2 x4 0) M2 (fun r10 M9 => K r10 M9))) X
set_option maxRecDepth 100000 in
set_option maxHeartbeats 4000000 in
theorem c_X12_nearestBarge {ad : Nat → Nat} (p1 : Int32) (M : TM) (K : Int32 → TM → Prop) (X : String → TM → Prop) (h : f_X12_nearestBarge p1 M K X) : XI yX12_nearestBarge cX12_nearestBarge 2 (some .int) 8 1 ad [.ref (ad 0), .int p1] M K X := by
  refine XI_of RX12 rfl (by decide +kernel) (Nat.le_of_ble_eq_true rfl) (fun p l e s m below meth c D tc E hr hfl hT => ?_)
  unfold f_X12_nearestBarge at h
  refine ra_aload_n E dX12_nearestBarge_0 rfl 0 rfl ?_
  obtain ⟨g1, h⟩ := h
  refine gf_X12_5 E fl_X12_41 dX12_nearestBarge_1 ?_
  refine ra_aload_n E dX12_nearestBarge_4 rfl 0 rfl ?_
  refine ra_iload_n E dX12_nearestBarge_5 rfl 1 rfl ?_
  refine rx_callAVP (rest := [_]) E hfl (c_X12_orderAt _ _ _ _ h) (lq_X12 _) cv_X12_orderAt ml_X12_190 (by decide) (lm (by decide)) (fun R => ⟨_, cel_0 tc ad R⟩) rfl rfl rfl (Nat.le_of_ble_eq_true rfl) ⟨Nat.le_of_ble_eq_true rfl, Nat.le_of_ble_eq_true rfl⟩ ⟨Nat.le_of_ble_eq_true rfl, Nat.le_of_ble_eq_true rfl⟩ dX12_nearestBarge_6 hT ⟨Nat.le_of_ble_eq_true rfl, Nat.le_of_ble_eq_true rfl⟩ (fun _ _ hx => hx) (fun o3 M2 h => ?_)
  obtain ⟨q6, q8⟩ := h
  obtain ⟨x4, g5, q6⟩ := q6
  replace h := q8 x4 g5 q6
  subst q6
  refine gf_X6_0 E g5 fl_X12_194 dX12_nearestBarge_9 ?_
  refine ra_callIV (rest := []) E (c_X2_bargeNearestTo _ (isCanal_of g1) _ _ _ h) (lq_X2 _) cv_X2_bargeNearestTo ml_X12_278 (by decide) (lm ((isCanal_of g1).add (j := 0) (by decide))) (fun R => ⟨_, cel_canal tc ad (isCanal_of g1) R⟩) rfl rfl rfl (Nat.le_of_ble_eq_true rfl) ⟨Nat.le_of_ble_eq_true rfl, Nat.le_of_ble_eq_true rfl⟩ ⟨Nat.le_of_ble_eq_true rfl, Nat.le_of_ble_eq_true rfl⟩ dX12_nearestBarge_12 (fun r10 M9 h => ?_)
  exact rx_iret E hr dX12_nearestBarge_15 ⟨Nat.le_of_ble_eq_true rfl, Nat.le_of_ble_eq_true rfl⟩ h
def f_X12_sail (p1 : Int32) (p2 : Int32) (M : TM) (K : Int32 → TM → Prop) (X : String → TM → Prop) : Prop := f_X12_requireBarge p1 M (fun M1 => f_X12_requirePlace p2 M1 (fun M2 => vp_in (M2 0 5) 11 ∧ f_X2_canSail (27 + 61 * (M2 0 5).toNatClampNeg) p1 p2 M2 (fun r5 M4 => f_X12_requireState r5 M4 (fun M7 => vp_in (M7 0 5) 11 ∧ f_X5_remember (27 + 61 * (M7 0 5).toNatClampNeg) M7 (fun M9 => vp_in (M9 0 5) 11 ∧ f_X2_setTarget (27 + 61 * (M9 0 5).toNatClampNeg) p1 p2 M9 (fun M11 => vp_in (M11 0 5) 11 ∧ f_X12_bargeAt p1 M11 (fun o14 M13 => (∃ x15, IsBarge x15 ∧ o14 = some x15) ∧ (∀ x15, IsBarge x15 → o14 = some x15 → f_X2_timeBetween (27 + 61 * (M11 0 5).toNatClampNeg) (M13 x15 0) p2 M13 (fun r21 M20 => K r21 M20))) X))) X)) X) X
set_option maxRecDepth 100000 in
set_option maxHeartbeats 4000000 in
theorem c_X12_sail {ad : Nat → Nat} (p1 : Int32) (p2 : Int32) (M : TM) (K : Int32 → TM → Prop) (X : String → TM → Prop) (h : f_X12_sail p1 p2 M K X) : XI yX12_sail cX12_sail 3 (some .int) 8 4 ad [.ref (ad 0), .int p1, .int p2] M K X := by
  refine XI_of RX12 rfl (by decide +kernel) (Nat.le_of_ble_eq_true rfl) (fun p l e s m below meth c D tc E hr hfl hT => ?_)
  unfold f_X12_sail at h
  refine ra_aload_n E dX12_sail_0 rfl 0 rfl ?_
  refine ra_iload_n E dX12_sail_1 rfl 1 rfl ?_
  refine rx_callVVP (rest := []) E hfl (c_X12_requireBarge _ _ _ _ h) (lq_X12 _) cv_X12_requireBarge ml_X12_177 (by decide) (lm (by decide)) (fun R => ⟨_, cel_0 tc ad R⟩) rfl rfl rfl (Nat.le_of_ble_eq_true rfl) ⟨Nat.le_of_ble_eq_true rfl, Nat.le_of_ble_eq_true rfl⟩ ⟨Nat.le_of_ble_eq_true rfl, Nat.le_of_ble_eq_true rfl⟩ dX12_sail_2 hT ⟨Nat.le_of_ble_eq_true rfl, Nat.le_of_ble_eq_true rfl⟩ (fun _ _ hx => hx) (fun M1 h => ?_)
  refine ra_aload_n E dX12_sail_5 rfl 0 rfl ?_
  refine ra_iload_n E dX12_sail_6 rfl 2 rfl ?_
  refine rx_callVVP (rest := []) E hfl (c_X12_requirePlace _ _ _ _ h) (lq_X12 _) cv_X12_requirePlace ml_X12_130 (by decide) (lm (by decide)) (fun R => ⟨_, cel_0 tc ad R⟩) rfl rfl rfl (Nat.le_of_ble_eq_true rfl) ⟨Nat.le_of_ble_eq_true rfl, Nat.le_of_ble_eq_true rfl⟩ ⟨Nat.le_of_ble_eq_true rfl, Nat.le_of_ble_eq_true rfl⟩ dX12_sail_7 hT ⟨Nat.le_of_ble_eq_true rfl, Nat.le_of_ble_eq_true rfl⟩ (fun _ _ hx => hx) (fun M2 h => ?_)
  refine ra_aload_n E dX12_sail_10 rfl 0 rfl ?_
  obtain ⟨g3, h⟩ := h
  refine gf_X12_5 E fl_X12_41 dX12_sail_11 ?_
  refine ra_iload_n E dX12_sail_14 rfl 1 rfl ?_
  refine ra_iload_n E dX12_sail_15 rfl 2 rfl ?_
  refine ra_callIV (rest := []) E (c_X2_canSail _ (isCanal_of g3) _ _ _ _ h) (lq_X2 _) cv_X2_canSail ml_X12_281 (by decide) (lm ((isCanal_of g3).add (j := 0) (by decide))) (fun R => ⟨_, cel_canal tc ad (isCanal_of g3) R⟩) rfl rfl rfl (Nat.le_of_ble_eq_true rfl) ⟨Nat.le_of_ble_eq_true rfl, Nat.le_of_ble_eq_true rfl⟩ ⟨Nat.le_of_ble_eq_true rfl, Nat.le_of_ble_eq_true rfl⟩ dX12_sail_16 (fun r5 M4 h => ?_)
  obtain ⟨b6, h⟩ := h
  refine rx_callVSP (rest := []) E hfl (c_X12_requireState _ _ _ _ h) (lq_X12 _) ct_X12_requireState ml_X12_285 (by decide) rfl rfl (Nat.le_of_ble_eq_true rfl) ⟨Nat.le_of_ble_eq_true rfl, Nat.le_of_ble_eq_true rfl⟩ ⟨Nat.le_of_ble_eq_true rfl, Nat.le_of_ble_eq_true rfl⟩ dX12_sail_19 hT ⟨Nat.le_of_ble_eq_true rfl, Nat.le_of_ble_eq_true rfl⟩ (fun _ _ hx => hx) (fun M7 h => ?_)
  refine ra_aload_n E dX12_sail_22 rfl 0 rfl ?_
  refine gf_X12_2 E fl_X12_26 dX12_sail_23 ?_
  refine ra_aload_n E dX12_sail_26 rfl 0 rfl ?_
  obtain ⟨g8, h⟩ := h
  refine gf_X12_5 E fl_X12_41 dX12_sail_27 ?_
  refine ra_callVV (rest := []) E (c_X5_remember _ (isCanal_of g8) _ _ h) (lq_X5 _) cv_X5_remember ml_X12_289 (by decide) (lm (by decide)) (fun R => ⟨_, cel_25 tc ad R⟩) rfl rfl rfl (Nat.le_of_ble_eq_true rfl) ⟨Nat.le_of_ble_eq_true rfl, Nat.le_of_ble_eq_true rfl⟩ ⟨Nat.le_of_ble_eq_true rfl, Nat.le_of_ble_eq_true rfl⟩ dX12_sail_30 (fun M9 h => ?_)
  refine ra_aload_n E dX12_sail_33 rfl 0 rfl ?_
  obtain ⟨g10, h⟩ := h
  refine gf_X12_5 E fl_X12_41 dX12_sail_34 ?_
  refine ra_iload_n E dX12_sail_37 rfl 1 rfl ?_
  refine ra_iload_n E dX12_sail_38 rfl 2 rfl ?_
  refine ra_callVV (rest := []) E (c_X2_setTarget _ (isCanal_of g10) _ _ _ _ h) (lq_X2 _) cv_X2_setTarget ml_X12_292 (by decide) (lm ((isCanal_of g10).add (j := 0) (by decide))) (fun R => ⟨_, cel_canal tc ad (isCanal_of g10) R⟩) rfl rfl rfl (Nat.le_of_ble_eq_true rfl) ⟨Nat.le_of_ble_eq_true rfl, Nat.le_of_ble_eq_true rfl⟩ ⟨Nat.le_of_ble_eq_true rfl, Nat.le_of_ble_eq_true rfl⟩ dX12_sail_39 (fun M11 h => ?_)
  refine ra_aload_n E dX12_sail_42 rfl 0 rfl ?_
  obtain ⟨g12, h⟩ := h
  refine gf_X12_5 E fl_X12_41 dX12_sail_43 ?_
  refine ra_aload_n E dX12_sail_46 rfl 0 rfl ?_
  refine ra_iload_n E dX12_sail_47 rfl 1 rfl ?_
  refine rx_callAVP (rest := [_]) E hfl (c_X12_bargeAt _ _ _ _ h) (lq_X12 _) cv_X12_bargeAt ml_X12_144 (by decide) (lm (by decide)) (fun R => ⟨_, cel_0 tc ad R⟩) rfl rfl rfl (Nat.le_of_ble_eq_true rfl) ⟨Nat.le_of_ble_eq_true rfl, Nat.le_of_ble_eq_true rfl⟩ ⟨Nat.le_of_ble_eq_true rfl, Nat.le_of_ble_eq_true rfl⟩ dX12_sail_48 hT ⟨Nat.le_of_ble_eq_true rfl, Nat.le_of_ble_eq_true rfl⟩ (fun _ _ hx => hx) (fun o14 M13 h => ?_)
  obtain ⟨q17, q19⟩ := h
  obtain ⟨x15, g16, q17⟩ := q17
  replace h := q19 x15 g16 q17
  subst q17
  refine gf_X1_0 E g16 fl_X12_148 dX12_sail_51 ?_
  refine ra_iload_n E dX12_sail_54 rfl 2 rfl ?_
  refine ra_callIV (rest := []) E (c_X2_timeBetween _ (isCanal_of g12) _ _ _ _ h) (lq_X2 _) cv_X2_timeBetween ml_X12_255 (by decide) (lm ((isCanal_of g12).add (j := 0) (by decide))) (fun R => ⟨_, cel_canal tc ad (isCanal_of g12) R⟩) rfl rfl rfl (Nat.le_of_ble_eq_true rfl) ⟨Nat.le_of_ble_eq_true rfl, Nat.le_of_ble_eq_true rfl⟩ ⟨Nat.le_of_ble_eq_true rfl, Nat.le_of_ble_eq_true rfl⟩ dX12_sail_55 (fun r21 M20 h => ?_)
  exact rx_iret E hr dX12_sail_58 ⟨Nat.le_of_ble_eq_true rfl, Nat.le_of_ble_eq_true rfl⟩ h
def f_X12_makeOrder (p1 : Int32) (p2 : Int32) (p3 : Int32) (p4 : Int32) (M : TM) (K : Int32 → TM → Prop) (X : String → TM → Prop) : Prop := f_X12_requirePlace p1 M (fun M1 => f_X12_requireRange p2 (1 : Int32) (4 : Int32) M1 (fun M2 => f_X12_requireRange p3 (1 : Int32) (6 : Int32) M2 (fun M3 => f_X12_requireRange p4 (1 : Int32) (500 : Int32) M3 (fun M4 => vp_in (M4 0 5) 11 ∧ f_X2_canAddOrder (27 + 61 * (M4 0 5).toNatClampNeg) p1 M4 (fun r7 M6 => f_X12_requireState r7 M6 (fun M9 => vp_in (M9 0 5) 11 ∧ f_X5_remember (27 + 61 * (M9 0 5).toNatClampNeg) M9 (fun M11 => vp_in (M11 0 5) 11 ∧ f_X2_addOrder (27 + 61 * (M11 0 5).toNatClampNeg) p1 p2 p3 p4 M11 (fun M13 => vp_in (M13 0 5) 11 ∧ K ((M13 (27 + 61 * (M13 0 5).toNatClampNeg) 6) - (1 : Int32)) M13))) X)) X) X) X) X
set_option maxRecDepth 100000 in
set_option maxHeartbeats 4000000 in
theorem c_X12_makeOrder {ad : Nat → Nat} (p1 : Int32) (p2 : Int32) (p3 : Int32) (p4 : Int32) (M : TM) (K : Int32 → TM → Prop) (X : String → TM → Prop) (h : f_X12_makeOrder p1 p2 p3 p4 M K X) : XI yX12_makeOrder cX12_makeOrder 5 (some .int) 7 5 ad [.ref (ad 0), .int p1, .int p2, .int p3, .int p4] M K X := by
  refine XI_of RX12 rfl (by decide +kernel) (Nat.le_of_ble_eq_true rfl) (fun p l e s m below meth c D tc E hr hfl hT => ?_)
  unfold f_X12_makeOrder at h
  refine ra_aload_n E dX12_makeOrder_0 rfl 0 rfl ?_
  refine ra_iload_n E dX12_makeOrder_1 rfl 1 rfl ?_
  refine rx_callVVP (rest := []) E hfl (c_X12_requirePlace _ _ _ _ h) (lq_X12 _) cv_X12_requirePlace ml_X12_130 (by decide) (lm (by decide)) (fun R => ⟨_, cel_0 tc ad R⟩) rfl rfl rfl (Nat.le_of_ble_eq_true rfl) ⟨Nat.le_of_ble_eq_true rfl, Nat.le_of_ble_eq_true rfl⟩ ⟨Nat.le_of_ble_eq_true rfl, Nat.le_of_ble_eq_true rfl⟩ dX12_makeOrder_2 hT ⟨Nat.le_of_ble_eq_true rfl, Nat.le_of_ble_eq_true rfl⟩ (fun _ _ hx => hx) (fun M1 h => ?_)
  refine ra_iload_n E dX12_makeOrder_5 rfl 2 rfl ?_
  refine ra_iconst E dX12_makeOrder_6 ki_1 ?_
  refine ra_iconst E dX12_makeOrder_7 ki_4 ?_
  refine rx_callVSP (rest := []) E hfl (c_X12_requireRange _ _ _ _ _ _ h) (lq_X12 _) ct_X12_requireRange ml_X12_274 (by decide) rfl rfl (Nat.le_of_ble_eq_true rfl) ⟨Nat.le_of_ble_eq_true rfl, Nat.le_of_ble_eq_true rfl⟩ ⟨Nat.le_of_ble_eq_true rfl, Nat.le_of_ble_eq_true rfl⟩ dX12_makeOrder_8 hT ⟨Nat.le_of_ble_eq_true rfl, Nat.le_of_ble_eq_true rfl⟩ (fun _ _ hx => hx) (fun M2 h => ?_)
  refine ra_iload_n E dX12_makeOrder_11 rfl 3 rfl ?_
  refine ra_iconst E dX12_makeOrder_12 ki_1 ?_
  refine ra_bipush E dX12_makeOrder_13 kb_6 ?_
  refine rx_callVSP (rest := []) E hfl (c_X12_requireRange _ _ _ _ _ _ h) (lq_X12 _) ct_X12_requireRange ml_X12_274 (by decide) rfl rfl (Nat.le_of_ble_eq_true rfl) ⟨Nat.le_of_ble_eq_true rfl, Nat.le_of_ble_eq_true rfl⟩ ⟨Nat.le_of_ble_eq_true rfl, Nat.le_of_ble_eq_true rfl⟩ dX12_makeOrder_15 hT ⟨Nat.le_of_ble_eq_true rfl, Nat.le_of_ble_eq_true rfl⟩ (fun _ _ hx => hx) (fun M3 h => ?_)
  refine ra_iload E dX12_makeOrder_18 4 rfl ?_
  refine ra_iconst E dX12_makeOrder_20 ki_1 ?_
  refine ra_sipush E dX12_makeOrder_21 ks_500 ?_
  refine rx_callVSP (rest := []) E hfl (c_X12_requireRange _ _ _ _ _ _ h) (lq_X12 _) ct_X12_requireRange ml_X12_274 (by decide) rfl rfl (Nat.le_of_ble_eq_true rfl) ⟨Nat.le_of_ble_eq_true rfl, Nat.le_of_ble_eq_true rfl⟩ ⟨Nat.le_of_ble_eq_true rfl, Nat.le_of_ble_eq_true rfl⟩ dX12_makeOrder_24 hT ⟨Nat.le_of_ble_eq_true rfl, Nat.le_of_ble_eq_true rfl⟩ (fun _ _ hx => hx) (fun M4 h => ?_)
  refine ra_aload_n E dX12_makeOrder_27 rfl 0 rfl ?_
  obtain ⟨g5, h⟩ := h
  refine gf_X12_5 E fl_X12_41 dX12_makeOrder_28 ?_
  refine ra_iload_n E dX12_makeOrder_31 rfl 1 rfl ?_
  refine ra_callIV (rest := []) E (c_X2_canAddOrder _ (isCanal_of g5) _ _ _ h) (lq_X2 _) cv_X2_canAddOrder ml_X12_296 (by decide) (lm ((isCanal_of g5).add (j := 0) (by decide))) (fun R => ⟨_, cel_canal tc ad (isCanal_of g5) R⟩) rfl rfl rfl (Nat.le_of_ble_eq_true rfl) ⟨Nat.le_of_ble_eq_true rfl, Nat.le_of_ble_eq_true rfl⟩ ⟨Nat.le_of_ble_eq_true rfl, Nat.le_of_ble_eq_true rfl⟩ dX12_makeOrder_32 (fun r7 M6 h => ?_)
  obtain ⟨b8, h⟩ := h
  refine rx_callVSP (rest := []) E hfl (c_X12_requireState _ _ _ _ h) (lq_X12 _) ct_X12_requireState ml_X12_285 (by decide) rfl rfl (Nat.le_of_ble_eq_true rfl) ⟨Nat.le_of_ble_eq_true rfl, Nat.le_of_ble_eq_true rfl⟩ ⟨Nat.le_of_ble_eq_true rfl, Nat.le_of_ble_eq_true rfl⟩ dX12_makeOrder_35 hT ⟨Nat.le_of_ble_eq_true rfl, Nat.le_of_ble_eq_true rfl⟩ (fun _ _ hx => hx) (fun M9 h => ?_)
  refine ra_aload_n E dX12_makeOrder_38 rfl 0 rfl ?_
  refine gf_X12_2 E fl_X12_26 dX12_makeOrder_39 ?_
  refine ra_aload_n E dX12_makeOrder_42 rfl 0 rfl ?_
  obtain ⟨g10, h⟩ := h
  refine gf_X12_5 E fl_X12_41 dX12_makeOrder_43 ?_
  refine ra_callVV (rest := []) E (c_X5_remember _ (isCanal_of g10) _ _ h) (lq_X5 _) cv_X5_remember ml_X12_289 (by decide) (lm (by decide)) (fun R => ⟨_, cel_25 tc ad R⟩) rfl rfl rfl (Nat.le_of_ble_eq_true rfl) ⟨Nat.le_of_ble_eq_true rfl, Nat.le_of_ble_eq_true rfl⟩ ⟨Nat.le_of_ble_eq_true rfl, Nat.le_of_ble_eq_true rfl⟩ dX12_makeOrder_46 (fun M11 h => ?_)
  refine ra_aload_n E dX12_makeOrder_49 rfl 0 rfl ?_
  obtain ⟨g12, h⟩ := h
  refine gf_X12_5 E fl_X12_41 dX12_makeOrder_50 ?_
  refine ra_iload_n E dX12_makeOrder_53 rfl 1 rfl ?_
  refine ra_iload_n E dX12_makeOrder_54 rfl 2 rfl ?_
  refine ra_iload_n E dX12_makeOrder_55 rfl 3 rfl ?_
  refine ra_iload E dX12_makeOrder_56 4 rfl ?_
  refine ra_callVV (rest := []) E (c_X2_addOrder _ (isCanal_of g12) _ _ _ _ _ _ h) (lq_X2 _) cv_X2_addOrder ml_X12_299 (by decide) (lm ((isCanal_of g12).add (j := 0) (by decide))) (fun R => ⟨_, cel_canal tc ad (isCanal_of g12) R⟩) rfl rfl rfl (Nat.le_of_ble_eq_true rfl) ⟨Nat.le_of_ble_eq_true rfl, Nat.le_of_ble_eq_true rfl⟩ ⟨Nat.le_of_ble_eq_true rfl, Nat.le_of_ble_eq_true rfl⟩ dX12_makeOrder_58 (fun M13 h => ?_)
  refine ra_aload_n E dX12_makeOrder_61 rfl 0 rfl ?_
  obtain ⟨g14, h⟩ := h
  refine gf_X12_5 E fl_X12_41 dX12_makeOrder_62 ?_
  refine gf_X2_6 E (isCanal_of g14) fl_X12_187 dX12_makeOrder_65 ?_
  refine ra_iconst E dX12_makeOrder_68 ki_1 ?_
  refine ra_isub E dX12_makeOrder_69 ?_
  exact rx_iret E hr dX12_makeOrder_70 ⟨Nat.le_of_ble_eq_true rfl, Nat.le_of_ble_eq_true rfl⟩ h
def f_X12_take (p1 : Int32) (p2 : Int32) (M : TM) (K : Int32 → TM → Prop) (X : String → TM → Prop) : Prop := f_X12_requireBarge p1 M (fun M1 => f_X12_requireOrder p2 M1 (fun M2 => vp_in (M2 0 5) 11 ∧ f_X2_canGive (27 + 61 * (M2 0 5).toNatClampNeg) p1 p2 M2 (fun r5 M4 => f_X12_requireState r5 M4 (fun M7 => vp_in (M7 0 5) 11 ∧ f_X5_remember (27 + 61 * (M7 0 5).toNatClampNeg) M7 (fun M9 => vp_in (M9 0 5) 11 ∧ f_X2_give (27 + 61 * (M9 0 5).toNatClampNeg) p1 p2 M9 (fun M11 => f_X12_bargeAt p1 M11 (fun o13 M12 => (∃ x14, IsBarge x14 ∧ o13 = some x14) ∧ (∀ x14, IsBarge x14 → o13 = some x14 → K (M12 x14 8) M12)) X))) X)) X) X
set_option maxRecDepth 100000 in
set_option maxHeartbeats 4000000 in
theorem c_X12_take {ad : Nat → Nat} (p1 : Int32) (p2 : Int32) (M : TM) (K : Int32 → TM → Prop) (X : String → TM → Prop) (h : f_X12_take p1 p2 M K X) : XI yX12_take cX12_take 3 (some .int) 8 4 ad [.ref (ad 0), .int p1, .int p2] M K X := by
  refine XI_of RX12 rfl (by decide +kernel) (Nat.le_of_ble_eq_true rfl) (fun p l e s m below meth c D tc E hr hfl hT => ?_)
  unfold f_X12_take at h
  refine ra_aload_n E dX12_take_0 rfl 0 rfl ?_
  refine ra_iload_n E dX12_take_1 rfl 1 rfl ?_
  refine rx_callVVP (rest := []) E hfl (c_X12_requireBarge _ _ _ _ h) (lq_X12 _) cv_X12_requireBarge ml_X12_177 (by decide) (lm (by decide)) (fun R => ⟨_, cel_0 tc ad R⟩) rfl rfl rfl (Nat.le_of_ble_eq_true rfl) ⟨Nat.le_of_ble_eq_true rfl, Nat.le_of_ble_eq_true rfl⟩ ⟨Nat.le_of_ble_eq_true rfl, Nat.le_of_ble_eq_true rfl⟩ dX12_take_2 hT ⟨Nat.le_of_ble_eq_true rfl, Nat.le_of_ble_eq_true rfl⟩ (fun _ _ hx => hx) (fun M1 h => ?_)
  refine ra_aload_n E dX12_take_5 rfl 0 rfl ?_
  refine ra_iload_n E dX12_take_6 rfl 2 rfl ?_
  refine rx_callVVP (rest := []) E hfl (c_X12_requireOrder _ _ _ _ h) (lq_X12 _) cv_X12_requireOrder ml_X12_268 (by decide) (lm (by decide)) (fun R => ⟨_, cel_0 tc ad R⟩) rfl rfl rfl (Nat.le_of_ble_eq_true rfl) ⟨Nat.le_of_ble_eq_true rfl, Nat.le_of_ble_eq_true rfl⟩ ⟨Nat.le_of_ble_eq_true rfl, Nat.le_of_ble_eq_true rfl⟩ dX12_take_7 hT ⟨Nat.le_of_ble_eq_true rfl, Nat.le_of_ble_eq_true rfl⟩ (fun _ _ hx => hx) (fun M2 h => ?_)
  refine ra_aload_n E dX12_take_10 rfl 0 rfl ?_
  obtain ⟨g3, h⟩ := h
  refine gf_X12_5 E fl_X12_41 dX12_take_11 ?_
  refine ra_iload_n E dX12_take_14 rfl 1 rfl ?_
  refine ra_iload_n E dX12_take_15 rfl 2 rfl ?_
  refine ra_callIV (rest := []) E (c_X2_canGive _ (isCanal_of g3) _ _ _ _ h) (lq_X2 _) cv_X2_canGive ml_X12_303 (by decide) (lm ((isCanal_of g3).add (j := 0) (by decide))) (fun R => ⟨_, cel_canal tc ad (isCanal_of g3) R⟩) rfl rfl rfl (Nat.le_of_ble_eq_true rfl) ⟨Nat.le_of_ble_eq_true rfl, Nat.le_of_ble_eq_true rfl⟩ ⟨Nat.le_of_ble_eq_true rfl, Nat.le_of_ble_eq_true rfl⟩ dX12_take_16 (fun r5 M4 h => ?_)
  obtain ⟨b6, h⟩ := h
  refine rx_callVSP (rest := []) E hfl (c_X12_requireState _ _ _ _ h) (lq_X12 _) ct_X12_requireState ml_X12_285 (by decide) rfl rfl (Nat.le_of_ble_eq_true rfl) ⟨Nat.le_of_ble_eq_true rfl, Nat.le_of_ble_eq_true rfl⟩ ⟨Nat.le_of_ble_eq_true rfl, Nat.le_of_ble_eq_true rfl⟩ dX12_take_19 hT ⟨Nat.le_of_ble_eq_true rfl, Nat.le_of_ble_eq_true rfl⟩ (fun _ _ hx => hx) (fun M7 h => ?_)
  refine ra_aload_n E dX12_take_22 rfl 0 rfl ?_
  refine gf_X12_2 E fl_X12_26 dX12_take_23 ?_
  refine ra_aload_n E dX12_take_26 rfl 0 rfl ?_
  obtain ⟨g8, h⟩ := h
  refine gf_X12_5 E fl_X12_41 dX12_take_27 ?_
  refine ra_callVV (rest := []) E (c_X5_remember _ (isCanal_of g8) _ _ h) (lq_X5 _) cv_X5_remember ml_X12_289 (by decide) (lm (by decide)) (fun R => ⟨_, cel_25 tc ad R⟩) rfl rfl rfl (Nat.le_of_ble_eq_true rfl) ⟨Nat.le_of_ble_eq_true rfl, Nat.le_of_ble_eq_true rfl⟩ ⟨Nat.le_of_ble_eq_true rfl, Nat.le_of_ble_eq_true rfl⟩ dX12_take_30 (fun M9 h => ?_)
  refine ra_aload_n E dX12_take_33 rfl 0 rfl ?_
  obtain ⟨g10, h⟩ := h
  refine gf_X12_5 E fl_X12_41 dX12_take_34 ?_
  refine ra_iload_n E dX12_take_37 rfl 1 rfl ?_
  refine ra_iload_n E dX12_take_38 rfl 2 rfl ?_
  refine ra_callVV (rest := []) E (c_X2_give _ (isCanal_of g10) _ _ _ _ h) (lq_X2 _) cv_X2_give ml_X12_306 (by decide) (lm ((isCanal_of g10).add (j := 0) (by decide))) (fun R => ⟨_, cel_canal tc ad (isCanal_of g10) R⟩) rfl rfl rfl (Nat.le_of_ble_eq_true rfl) ⟨Nat.le_of_ble_eq_true rfl, Nat.le_of_ble_eq_true rfl⟩ ⟨Nat.le_of_ble_eq_true rfl, Nat.le_of_ble_eq_true rfl⟩ dX12_take_39 (fun M11 h => ?_)
  refine ra_aload_n E dX12_take_42 rfl 0 rfl ?_
  refine ra_iload_n E dX12_take_43 rfl 1 rfl ?_
  refine rx_callAVP (rest := []) E hfl (c_X12_bargeAt _ _ _ _ h) (lq_X12 _) cv_X12_bargeAt ml_X12_144 (by decide) (lm (by decide)) (fun R => ⟨_, cel_0 tc ad R⟩) rfl rfl rfl (Nat.le_of_ble_eq_true rfl) ⟨Nat.le_of_ble_eq_true rfl, Nat.le_of_ble_eq_true rfl⟩ ⟨Nat.le_of_ble_eq_true rfl, Nat.le_of_ble_eq_true rfl⟩ dX12_take_44 hT ⟨Nat.le_of_ble_eq_true rfl, Nat.le_of_ble_eq_true rfl⟩ (fun _ _ hx => hx) (fun o13 M12 h => ?_)
  obtain ⟨q16, q18⟩ := h
  obtain ⟨x14, g15, q16⟩ := q16
  replace h := q18 x14 g15 q16
  subst q16
  refine gf_X1_8 E g15 fl_X12_171 dX12_take_47 ?_
  exact rx_iret E hr dX12_take_50 ⟨Nat.le_of_ble_eq_true rfl, Nat.le_of_ble_eq_true rfl⟩ h
def f_X12_drop (p1 : Int32) (M : TM) (K : Int32 → TM → Prop) (X : String → TM → Prop) : Prop := f_X12_requireOrder p1 M (fun M1 => vp_in (M1 0 5) 11 ∧ f_X2_canReopen (27 + 61 * (M1 0 5).toNatClampNeg) p1 M1 (fun r4 M3 => f_X12_requireState r4 M3 (fun M6 => vp_in (M6 0 5) 11 ∧ f_X5_remember (27 + 61 * (M6 0 5).toNatClampNeg) M6 (fun M8 => f_X12_orderAt p1 M8 (fun o10 M9 => (∃ x11, IsOrder x11 ∧ o10 = some x11) ∧ (∀ x11, IsOrder x11 → o10 = some x11 → vp_in (M9 0 5) 11 ∧ f_X2_reopen (27 + 61 * (M9 0 5).toNatClampNeg) p1 M9 (fun M17 => K (M9 x11 7) M17))) X)) X)) X
set_option maxRecDepth 100000 in
set_option maxHeartbeats 4000000 in
theorem c_X12_drop {ad : Nat → Nat} (p1 : Int32) (M : TM) (K : Int32 → TM → Prop) (X : String → TM → Prop) (h : f_X12_drop p1 M K X) : XI yX12_drop cX12_drop 3 (some .int) 8 3 ad [.ref (ad 0), .int p1] M K X := by
  refine XI_of RX12 rfl (by decide +kernel) (Nat.le_of_ble_eq_true rfl) (fun p l e s m below meth c D tc E hr hfl hT => ?_)
  unfold f_X12_drop at h
  refine ra_aload_n E dX12_drop_0 rfl 0 rfl ?_
  refine ra_iload_n E dX12_drop_1 rfl 1 rfl ?_
  refine rx_callVVP (rest := []) E hfl (c_X12_requireOrder _ _ _ _ h) (lq_X12 _) cv_X12_requireOrder ml_X12_268 (by decide) (lm (by decide)) (fun R => ⟨_, cel_0 tc ad R⟩) rfl rfl rfl (Nat.le_of_ble_eq_true rfl) ⟨Nat.le_of_ble_eq_true rfl, Nat.le_of_ble_eq_true rfl⟩ ⟨Nat.le_of_ble_eq_true rfl, Nat.le_of_ble_eq_true rfl⟩ dX12_drop_2 hT ⟨Nat.le_of_ble_eq_true rfl, Nat.le_of_ble_eq_true rfl⟩ (fun _ _ hx => hx) (fun M1 h => ?_)
  refine ra_aload_n E dX12_drop_5 rfl 0 rfl ?_
  obtain ⟨g2, h⟩ := h
  refine gf_X12_5 E fl_X12_41 dX12_drop_6 ?_
  refine ra_iload_n E dX12_drop_9 rfl 1 rfl ?_
  refine ra_callIV (rest := []) E (c_X2_canReopen _ (isCanal_of g2) _ _ _ h) (lq_X2 _) cv_X2_canReopen ml_X12_309 (by decide) (lm ((isCanal_of g2).add (j := 0) (by decide))) (fun R => ⟨_, cel_canal tc ad (isCanal_of g2) R⟩) rfl rfl rfl (Nat.le_of_ble_eq_true rfl) ⟨Nat.le_of_ble_eq_true rfl, Nat.le_of_ble_eq_true rfl⟩ ⟨Nat.le_of_ble_eq_true rfl, Nat.le_of_ble_eq_true rfl⟩ dX12_drop_10 (fun r4 M3 h => ?_)
  obtain ⟨b5, h⟩ := h
  refine rx_callVSP (rest := []) E hfl (c_X12_requireState _ _ _ _ h) (lq_X12 _) ct_X12_requireState ml_X12_285 (by decide) rfl rfl (Nat.le_of_ble_eq_true rfl) ⟨Nat.le_of_ble_eq_true rfl, Nat.le_of_ble_eq_true rfl⟩ ⟨Nat.le_of_ble_eq_true rfl, Nat.le_of_ble_eq_true rfl⟩ dX12_drop_13 hT ⟨Nat.le_of_ble_eq_true rfl, Nat.le_of_ble_eq_true rfl⟩ (fun _ _ hx => hx) (fun M6 h => ?_)
  refine ra_aload_n E dX12_drop_16 rfl 0 rfl ?_
  refine gf_X12_2 E fl_X12_26 dX12_drop_17 ?_
  refine ra_aload_n E dX12_drop_20 rfl 0 rfl ?_
  obtain ⟨g7, h⟩ := h
  refine gf_X12_5 E fl_X12_41 dX12_drop_21 ?_
  refine ra_callVV (rest := []) E (c_X5_remember _ (isCanal_of g7) _ _ h) (lq_X5 _) cv_X5_remember ml_X12_289 (by decide) (lm (by decide)) (fun R => ⟨_, cel_25 tc ad R⟩) rfl rfl rfl (Nat.le_of_ble_eq_true rfl) ⟨Nat.le_of_ble_eq_true rfl, Nat.le_of_ble_eq_true rfl⟩ ⟨Nat.le_of_ble_eq_true rfl, Nat.le_of_ble_eq_true rfl⟩ dX12_drop_24 (fun M8 h => ?_)
  refine ra_aload_n E dX12_drop_27 rfl 0 rfl ?_
  refine ra_iload_n E dX12_drop_28 rfl 1 rfl ?_
  refine rx_callAVP (rest := []) E hfl (c_X12_orderAt _ _ _ _ h) (lq_X12 _) cv_X12_orderAt ml_X12_190 (by decide) (lm (by decide)) (fun R => ⟨_, cel_0 tc ad R⟩) rfl rfl rfl (Nat.le_of_ble_eq_true rfl) ⟨Nat.le_of_ble_eq_true rfl, Nat.le_of_ble_eq_true rfl⟩ ⟨Nat.le_of_ble_eq_true rfl, Nat.le_of_ble_eq_true rfl⟩ dX12_drop_29 hT ⟨Nat.le_of_ble_eq_true rfl, Nat.le_of_ble_eq_true rfl⟩ (fun _ _ hx => hx) (fun o10 M9 h => ?_)
  obtain ⟨q13, q15⟩ := h
  obtain ⟨x11, g12, q13⟩ := q13
  replace h := q15 x11 g12 q13
  subst q13
  refine gf_X6_7 E g12 fl_X12_209 dX12_drop_32 ?_
  refine ra_istore_n (L' := [(2, _), (0, _), (1, _)]) E dX12_drop_35 rfl (by decide) rfl ?_
  refine ra_aload_n E dX12_drop_36 rfl 1 rfl ?_
  obtain ⟨g16, h⟩ := h
  refine gf_X12_5 E fl_X12_41 dX12_drop_37 ?_
  refine ra_iload_n E dX12_drop_40 rfl 2 rfl ?_
  refine ra_callVV (rest := []) E (c_X2_reopen _ (isCanal_of g16) _ _ _ h) (lq_X2 _) cv_X2_reopen ml_X12_312 (by decide) (lm ((isCanal_of g16).add (j := 0) (by decide))) (fun R => ⟨_, cel_canal tc ad (isCanal_of g16) R⟩) rfl rfl rfl (Nat.le_of_ble_eq_true rfl) ⟨Nat.le_of_ble_eq_true rfl, Nat.le_of_ble_eq_true rfl⟩ ⟨Nat.le_of_ble_eq_true rfl, Nat.le_of_ble_eq_true rfl⟩ dX12_drop_41 (fun M17 h => ?_)
  refine ra_iload_n E dX12_drop_44 rfl 0 rfl ?_
  exact rx_iret E hr dX12_drop_45 ⟨Nat.le_of_ble_eq_true rfl, Nat.le_of_ble_eq_true rfl⟩ h
def f_X12_buyFlour (p1 : Int32) (p2 : Int32) (M : TM) (K : Int32 → TM → Prop) (X : String → TM → Prop) : Prop := f_X12_requireBarge p1 M (fun M1 => f_X12_requireRange p2 (1 : Int32) (99 : Int32) M1 (fun M2 => vp_in (M2 0 5) 11 ∧ f_X2_canLoadFlour (27 + 61 * (M2 0 5).toNatClampNeg) p1 p2 M2 (fun r5 M4 => f_X12_requireState r5 M4 (fun M7 => vp_in (M7 0 5) 11 ∧ f_X5_remember (27 + 61 * (M7 0 5).toNatClampNeg) M7 (fun M9 => vp_in (M9 0 5) 11 ∧ f_X2_loadFlour (27 + 61 * (M9 0 5).toNatClampNeg) p1 p2 M9 (fun M11 => f_X12_bargeAt p1 M11 (fun o13 M12 => (∃ x14, IsBarge x14 ∧ o13 = some x14) ∧ (∀ x14, IsBarge x14 → o13 = some x14 → K (M12 x14 4) M12)) X))) X)) X) X
set_option maxRecDepth 100000 in
set_option maxHeartbeats 4000000 in
theorem c_X12_buyFlour {ad : Nat → Nat} (p1 : Int32) (p2 : Int32) (M : TM) (K : Int32 → TM → Prop) (X : String → TM → Prop) (h : f_X12_buyFlour p1 p2 M K X) : XI yX12_buyFlour cX12_buyFlour 3 (some .int) 8 4 ad [.ref (ad 0), .int p1, .int p2] M K X := by
  refine XI_of RX12 rfl (by decide +kernel) (Nat.le_of_ble_eq_true rfl) (fun p l e s m below meth c D tc E hr hfl hT => ?_)
  unfold f_X12_buyFlour at h
  refine ra_aload_n E dX12_buyFlour_0 rfl 0 rfl ?_
  refine ra_iload_n E dX12_buyFlour_1 rfl 1 rfl ?_
  refine rx_callVVP (rest := []) E hfl (c_X12_requireBarge _ _ _ _ h) (lq_X12 _) cv_X12_requireBarge ml_X12_177 (by decide) (lm (by decide)) (fun R => ⟨_, cel_0 tc ad R⟩) rfl rfl rfl (Nat.le_of_ble_eq_true rfl) ⟨Nat.le_of_ble_eq_true rfl, Nat.le_of_ble_eq_true rfl⟩ ⟨Nat.le_of_ble_eq_true rfl, Nat.le_of_ble_eq_true rfl⟩ dX12_buyFlour_2 hT ⟨Nat.le_of_ble_eq_true rfl, Nat.le_of_ble_eq_true rfl⟩ (fun _ _ hx => hx) (fun M1 h => ?_)
  refine ra_iload_n E dX12_buyFlour_5 rfl 2 rfl ?_
  refine ra_iconst E dX12_buyFlour_6 ki_1 ?_
  refine ra_bipush E dX12_buyFlour_7 kb_99 ?_
  refine rx_callVSP (rest := []) E hfl (c_X12_requireRange _ _ _ _ _ _ h) (lq_X12 _) ct_X12_requireRange ml_X12_274 (by decide) rfl rfl (Nat.le_of_ble_eq_true rfl) ⟨Nat.le_of_ble_eq_true rfl, Nat.le_of_ble_eq_true rfl⟩ ⟨Nat.le_of_ble_eq_true rfl, Nat.le_of_ble_eq_true rfl⟩ dX12_buyFlour_9 hT ⟨Nat.le_of_ble_eq_true rfl, Nat.le_of_ble_eq_true rfl⟩ (fun _ _ hx => hx) (fun M2 h => ?_)
  refine ra_aload_n E dX12_buyFlour_12 rfl 0 rfl ?_
  obtain ⟨g3, h⟩ := h
  refine gf_X12_5 E fl_X12_41 dX12_buyFlour_13 ?_
  refine ra_iload_n E dX12_buyFlour_16 rfl 1 rfl ?_
  refine ra_iload_n E dX12_buyFlour_17 rfl 2 rfl ?_
  refine ra_callIV (rest := []) E (c_X2_canLoadFlour _ (isCanal_of g3) _ _ _ _ h) (lq_X2 _) cv_X2_canLoadFlour ml_X12_315 (by decide) (lm ((isCanal_of g3).add (j := 0) (by decide))) (fun R => ⟨_, cel_canal tc ad (isCanal_of g3) R⟩) rfl rfl rfl (Nat.le_of_ble_eq_true rfl) ⟨Nat.le_of_ble_eq_true rfl, Nat.le_of_ble_eq_true rfl⟩ ⟨Nat.le_of_ble_eq_true rfl, Nat.le_of_ble_eq_true rfl⟩ dX12_buyFlour_18 (fun r5 M4 h => ?_)
  obtain ⟨b6, h⟩ := h
  refine rx_callVSP (rest := []) E hfl (c_X12_requireState _ _ _ _ h) (lq_X12 _) ct_X12_requireState ml_X12_285 (by decide) rfl rfl (Nat.le_of_ble_eq_true rfl) ⟨Nat.le_of_ble_eq_true rfl, Nat.le_of_ble_eq_true rfl⟩ ⟨Nat.le_of_ble_eq_true rfl, Nat.le_of_ble_eq_true rfl⟩ dX12_buyFlour_21 hT ⟨Nat.le_of_ble_eq_true rfl, Nat.le_of_ble_eq_true rfl⟩ (fun _ _ hx => hx) (fun M7 h => ?_)
  refine ra_aload_n E dX12_buyFlour_24 rfl 0 rfl ?_
  refine gf_X12_2 E fl_X12_26 dX12_buyFlour_25 ?_
  refine ra_aload_n E dX12_buyFlour_28 rfl 0 rfl ?_
  obtain ⟨g8, h⟩ := h
  refine gf_X12_5 E fl_X12_41 dX12_buyFlour_29 ?_
  refine ra_callVV (rest := []) E (c_X5_remember _ (isCanal_of g8) _ _ h) (lq_X5 _) cv_X5_remember ml_X12_289 (by decide) (lm (by decide)) (fun R => ⟨_, cel_25 tc ad R⟩) rfl rfl rfl (Nat.le_of_ble_eq_true rfl) ⟨Nat.le_of_ble_eq_true rfl, Nat.le_of_ble_eq_true rfl⟩ ⟨Nat.le_of_ble_eq_true rfl, Nat.le_of_ble_eq_true rfl⟩ dX12_buyFlour_32 (fun M9 h => ?_)
  refine ra_aload_n E dX12_buyFlour_35 rfl 0 rfl ?_
  obtain ⟨g10, h⟩ := h
  refine gf_X12_5 E fl_X12_41 dX12_buyFlour_36 ?_
  refine ra_iload_n E dX12_buyFlour_39 rfl 1 rfl ?_
  refine ra_iload_n E dX12_buyFlour_40 rfl 2 rfl ?_
  refine ra_callVV (rest := []) E (c_X2_loadFlour _ (isCanal_of g10) _ _ _ _ h) (lq_X2 _) cv_X2_loadFlour ml_X12_318 (by decide) (lm ((isCanal_of g10).add (j := 0) (by decide))) (fun R => ⟨_, cel_canal tc ad (isCanal_of g10) R⟩) rfl rfl rfl (Nat.le_of_ble_eq_true rfl) ⟨Nat.le_of_ble_eq_true rfl, Nat.le_of_ble_eq_true rfl⟩ ⟨Nat.le_of_ble_eq_true rfl, Nat.le_of_ble_eq_true rfl⟩ dX12_buyFlour_41 (fun M11 h => ?_)
  refine ra_aload_n E dX12_buyFlour_44 rfl 0 rfl ?_
  refine ra_iload_n E dX12_buyFlour_45 rfl 1 rfl ?_
  refine rx_callAVP (rest := []) E hfl (c_X12_bargeAt _ _ _ _ h) (lq_X12 _) cv_X12_bargeAt ml_X12_144 (by decide) (lm (by decide)) (fun R => ⟨_, cel_0 tc ad R⟩) rfl rfl rfl (Nat.le_of_ble_eq_true rfl) ⟨Nat.le_of_ble_eq_true rfl, Nat.le_of_ble_eq_true rfl⟩ ⟨Nat.le_of_ble_eq_true rfl, Nat.le_of_ble_eq_true rfl⟩ dX12_buyFlour_46 hT ⟨Nat.le_of_ble_eq_true rfl, Nat.le_of_ble_eq_true rfl⟩ (fun _ _ hx => hx) (fun o13 M12 h => ?_)
  obtain ⟨q16, q18⟩ := h
  obtain ⟨x14, g15, q16⟩ := q16
  replace h := q18 x14 g15 q16
  subst q16
  refine gf_X1_4 E g15 fl_X12_162 dX12_buyFlour_49 ?_
  exact rx_iret E hr dX12_buyFlour_52 ⟨Nat.le_of_ble_eq_true rfl, Nat.le_of_ble_eq_true rfl⟩ h
def f_X12_collect (p1 : Int32) (M : TM) (K : Int32 → TM → Prop) (X : String → TM → Prop) : Prop := f_X12_requireBarge p1 M (fun M1 => vp_in (M1 0 5) 11 ∧ f_X2_canGather (27 + 61 * (M1 0 5).toNatClampNeg) p1 M1 (fun r4 M3 => f_X12_requireState r4 M3 (fun M6 => vp_in (M6 0 5) 11 ∧ f_X5_remember (27 + 61 * (M6 0 5).toNatClampNeg) M6 (fun M8 => f_X12_bargeAt p1 M8 (fun o10 M9 => (∃ x11, IsBarge x11 ∧ o10 = some x11) ∧ (∀ x11, IsBarge x11 → o10 = some x11 → vp_in (M9 0 5) 11 ∧ f_X2_gather (27 + 61 * (M9 0 5).toNatClampNeg) p1 M9 (fun M17 => f_X12_bargeAt p1 M17 (fun o19 M18 => (∃ x20, IsBarge x20 ∧ o19 = some x20) ∧ (∀ x20, IsBarge x20 → o19 = some x20 → K ((M18 x20 6) - (M9 x11 6)) M18)) X))) X)) X)) X
set_option maxRecDepth 100000 in
set_option maxHeartbeats 4000000 in
theorem c_X12_collect {ad : Nat → Nat} (p1 : Int32) (M : TM) (K : Int32 → TM → Prop) (X : String → TM → Prop) (h : f_X12_collect p1 M K X) : XI yX12_collect cX12_collect 3 (some .int) 8 4 ad [.ref (ad 0), .int p1] M K X := by
  refine XI_of RX12 rfl (by decide +kernel) (Nat.le_of_ble_eq_true rfl) (fun p l e s m below meth c D tc E hr hfl hT => ?_)
  unfold f_X12_collect at h
  refine ra_aload_n E dX12_collect_0 rfl 0 rfl ?_
  refine ra_iload_n E dX12_collect_1 rfl 1 rfl ?_
  refine rx_callVVP (rest := []) E hfl (c_X12_requireBarge _ _ _ _ h) (lq_X12 _) cv_X12_requireBarge ml_X12_177 (by decide) (lm (by decide)) (fun R => ⟨_, cel_0 tc ad R⟩) rfl rfl rfl (Nat.le_of_ble_eq_true rfl) ⟨Nat.le_of_ble_eq_true rfl, Nat.le_of_ble_eq_true rfl⟩ ⟨Nat.le_of_ble_eq_true rfl, Nat.le_of_ble_eq_true rfl⟩ dX12_collect_2 hT ⟨Nat.le_of_ble_eq_true rfl, Nat.le_of_ble_eq_true rfl⟩ (fun _ _ hx => hx) (fun M1 h => ?_)
  refine ra_aload_n E dX12_collect_5 rfl 0 rfl ?_
  obtain ⟨g2, h⟩ := h
  refine gf_X12_5 E fl_X12_41 dX12_collect_6 ?_
  refine ra_iload_n E dX12_collect_9 rfl 1 rfl ?_
  refine ra_callIV (rest := []) E (c_X2_canGather _ (isCanal_of g2) _ _ _ h) (lq_X2 _) cv_X2_canGather ml_X12_321 (by decide) (lm ((isCanal_of g2).add (j := 0) (by decide))) (fun R => ⟨_, cel_canal tc ad (isCanal_of g2) R⟩) rfl rfl rfl (Nat.le_of_ble_eq_true rfl) ⟨Nat.le_of_ble_eq_true rfl, Nat.le_of_ble_eq_true rfl⟩ ⟨Nat.le_of_ble_eq_true rfl, Nat.le_of_ble_eq_true rfl⟩ dX12_collect_10 (fun r4 M3 h => ?_)
  obtain ⟨b5, h⟩ := h
  refine rx_callVSP (rest := []) E hfl (c_X12_requireState _ _ _ _ h) (lq_X12 _) ct_X12_requireState ml_X12_285 (by decide) rfl rfl (Nat.le_of_ble_eq_true rfl) ⟨Nat.le_of_ble_eq_true rfl, Nat.le_of_ble_eq_true rfl⟩ ⟨Nat.le_of_ble_eq_true rfl, Nat.le_of_ble_eq_true rfl⟩ dX12_collect_13 hT ⟨Nat.le_of_ble_eq_true rfl, Nat.le_of_ble_eq_true rfl⟩ (fun _ _ hx => hx) (fun M6 h => ?_)
  refine ra_aload_n E dX12_collect_16 rfl 0 rfl ?_
  refine gf_X12_2 E fl_X12_26 dX12_collect_17 ?_
  refine ra_aload_n E dX12_collect_20 rfl 0 rfl ?_
  obtain ⟨g7, h⟩ := h
  refine gf_X12_5 E fl_X12_41 dX12_collect_21 ?_
  refine ra_callVV (rest := []) E (c_X5_remember _ (isCanal_of g7) _ _ h) (lq_X5 _) cv_X5_remember ml_X12_289 (by decide) (lm (by decide)) (fun R => ⟨_, cel_25 tc ad R⟩) rfl rfl rfl (Nat.le_of_ble_eq_true rfl) ⟨Nat.le_of_ble_eq_true rfl, Nat.le_of_ble_eq_true rfl⟩ ⟨Nat.le_of_ble_eq_true rfl, Nat.le_of_ble_eq_true rfl⟩ dX12_collect_24 (fun M8 h => ?_)
  refine ra_aload_n E dX12_collect_27 rfl 0 rfl ?_
  refine ra_iload_n E dX12_collect_28 rfl 1 rfl ?_
  refine rx_callAVP (rest := []) E hfl (c_X12_bargeAt _ _ _ _ h) (lq_X12 _) cv_X12_bargeAt ml_X12_144 (by decide) (lm (by decide)) (fun R => ⟨_, cel_0 tc ad R⟩) rfl rfl rfl (Nat.le_of_ble_eq_true rfl) ⟨Nat.le_of_ble_eq_true rfl, Nat.le_of_ble_eq_true rfl⟩ ⟨Nat.le_of_ble_eq_true rfl, Nat.le_of_ble_eq_true rfl⟩ dX12_collect_29 hT ⟨Nat.le_of_ble_eq_true rfl, Nat.le_of_ble_eq_true rfl⟩ (fun _ _ hx => hx) (fun o10 M9 h => ?_)
  obtain ⟨q13, q15⟩ := h
  obtain ⟨x11, g12, q13⟩ := q13
  replace h := q15 x11 g12 q13
  subst q13
  refine gf_X1_6 E g12 fl_X12_168 dX12_collect_32 ?_
  refine ra_istore_n (L' := [(2, _), (0, _), (1, _)]) E dX12_collect_35 rfl (by decide) rfl ?_
  refine ra_aload_n E dX12_collect_36 rfl 1 rfl ?_
  obtain ⟨g16, h⟩ := h
  refine gf_X12_5 E fl_X12_41 dX12_collect_37 ?_
  refine ra_iload_n E dX12_collect_40 rfl 2 rfl ?_
  refine ra_callVV (rest := []) E (c_X2_gather _ (isCanal_of g16) _ _ _ h) (lq_X2 _) cv_X2_gather ml_X12_324 (by decide) (lm ((isCanal_of g16).add (j := 0) (by decide))) (fun R => ⟨_, cel_canal tc ad (isCanal_of g16) R⟩) rfl rfl rfl (Nat.le_of_ble_eq_true rfl) ⟨Nat.le_of_ble_eq_true rfl, Nat.le_of_ble_eq_true rfl⟩ ⟨Nat.le_of_ble_eq_true rfl, Nat.le_of_ble_eq_true rfl⟩ dX12_collect_41 (fun M17 h => ?_)
  refine ra_aload_n E dX12_collect_44 rfl 1 rfl ?_
  refine ra_iload_n E dX12_collect_45 rfl 2 rfl ?_
  refine rx_callAVP (rest := []) E hfl (c_X12_bargeAt _ _ _ _ h) (lq_X12 _) cv_X12_bargeAt ml_X12_144 (by decide) (lm (by decide)) (fun R => ⟨_, cel_0 tc ad R⟩) rfl rfl rfl (Nat.le_of_ble_eq_true rfl) ⟨Nat.le_of_ble_eq_true rfl, Nat.le_of_ble_eq_true rfl⟩ ⟨Nat.le_of_ble_eq_true rfl, Nat.le_of_ble_eq_true rfl⟩ dX12_collect_46 hT ⟨Nat.le_of_ble_eq_true rfl, Nat.le_of_ble_eq_true rfl⟩ (fun _ _ hx => hx) (fun o19 M18 h => ?_)
  obtain ⟨q22, q24⟩ := h
  obtain ⟨x20, g21, q22⟩ := q22
  replace h := q24 x20 g21 q22
  subst q22
  refine gf_X1_6 E g21 fl_X12_168 dX12_collect_49 ?_
  refine ra_iload_n E dX12_collect_52 rfl 0 rfl ?_
  refine ra_isub E dX12_collect_53 ?_
  exact rx_iret E hr dX12_collect_54 ⟨Nat.le_of_ble_eq_true rfl, Nat.le_of_ble_eq_true rfl⟩ h
def f_X12_wash (p1 : Int32) (M : TM) (K : Int32 → TM → Prop) (X : String → TM → Prop) : Prop := f_X12_requireBarge p1 M (fun M1 => vp_in (M1 0 5) 11 ∧ f_X2_isInHarbor (27 + 61 * (M1 0 5).toNatClampNeg) p1 M1 (fun r4 M3 => f_X12_requireState r4 M3 (fun M6 => vp_in (M6 0 5) 11 ∧ f_X5_remember (27 + 61 * (M6 0 5).toNatClampNeg) M6 (fun M8 => vp_in (M8 0 5) 11 ∧ f_X2_clean (27 + 61 * (M8 0 5).toNatClampNeg) p1 M8 (fun M10 => f_X12_bargeAt p1 M10 (fun o12 M11 => (∃ x13, IsBarge x13 ∧ o12 = some x13) ∧ (∀ x13, IsBarge x13 → o12 = some x13 → K (M11 x13 5) M11)) X))) X)) X
set_option maxRecDepth 100000 in
set_option maxHeartbeats 4000000 in
theorem c_X12_wash {ad : Nat → Nat} (p1 : Int32) (M : TM) (K : Int32 → TM → Prop) (X : String → TM → Prop) (h : f_X12_wash p1 M K X) : XI yX12_wash cX12_wash 2 (some .int) 8 3 ad [.ref (ad 0), .int p1] M K X := by
  refine XI_of RX12 rfl (by decide +kernel) (Nat.le_of_ble_eq_true rfl) (fun p l e s m below meth c D tc E hr hfl hT => ?_)
  unfold f_X12_wash at h
  refine ra_aload_n E dX12_wash_0 rfl 0 rfl ?_
  refine ra_iload_n E dX12_wash_1 rfl 1 rfl ?_
  refine rx_callVVP (rest := []) E hfl (c_X12_requireBarge _ _ _ _ h) (lq_X12 _) cv_X12_requireBarge ml_X12_177 (by decide) (lm (by decide)) (fun R => ⟨_, cel_0 tc ad R⟩) rfl rfl rfl (Nat.le_of_ble_eq_true rfl) ⟨Nat.le_of_ble_eq_true rfl, Nat.le_of_ble_eq_true rfl⟩ ⟨Nat.le_of_ble_eq_true rfl, Nat.le_of_ble_eq_true rfl⟩ dX12_wash_2 hT ⟨Nat.le_of_ble_eq_true rfl, Nat.le_of_ble_eq_true rfl⟩ (fun _ _ hx => hx) (fun M1 h => ?_)
  refine ra_aload_n E dX12_wash_5 rfl 0 rfl ?_
  obtain ⟨g2, h⟩ := h
  refine gf_X12_5 E fl_X12_41 dX12_wash_6 ?_
  refine ra_iload_n E dX12_wash_9 rfl 1 rfl ?_
  refine ra_callIV (rest := []) E (c_X2_isInHarbor _ (isCanal_of g2) _ _ _ h) (lq_X2 _) cv_X2_isInHarbor ml_X12_327 (by decide) (lm ((isCanal_of g2).add (j := 0) (by decide))) (fun R => ⟨_, cel_canal tc ad (isCanal_of g2) R⟩) rfl rfl rfl (Nat.le_of_ble_eq_true rfl) ⟨Nat.le_of_ble_eq_true rfl, Nat.le_of_ble_eq_true rfl⟩ ⟨Nat.le_of_ble_eq_true rfl, Nat.le_of_ble_eq_true rfl⟩ dX12_wash_10 (fun r4 M3 h => ?_)
  obtain ⟨b5, h⟩ := h
  refine rx_callVSP (rest := []) E hfl (c_X12_requireState _ _ _ _ h) (lq_X12 _) ct_X12_requireState ml_X12_285 (by decide) rfl rfl (Nat.le_of_ble_eq_true rfl) ⟨Nat.le_of_ble_eq_true rfl, Nat.le_of_ble_eq_true rfl⟩ ⟨Nat.le_of_ble_eq_true rfl, Nat.le_of_ble_eq_true rfl⟩ dX12_wash_13 hT ⟨Nat.le_of_ble_eq_true rfl, Nat.le_of_ble_eq_true rfl⟩ (fun _ _ hx => hx) (fun M6 h => ?_)
  refine ra_aload_n E dX12_wash_16 rfl 0 rfl ?_
  refine gf_X12_2 E fl_X12_26 dX12_wash_17 ?_
  refine ra_aload_n E dX12_wash_20 rfl 0 rfl ?_
  obtain ⟨g7, h⟩ := h
  refine gf_X12_5 E fl_X12_41 dX12_wash_21 ?_
  refine ra_callVV (rest := []) E (c_X5_remember _ (isCanal_of g7) _ _ h) (lq_X5 _) cv_X5_remember ml_X12_289 (by decide) (lm (by decide)) (fun R => ⟨_, cel_25 tc ad R⟩) rfl rfl rfl (Nat.le_of_ble_eq_true rfl) ⟨Nat.le_of_ble_eq_true rfl, Nat.le_of_ble_eq_true rfl⟩ ⟨Nat.le_of_ble_eq_true rfl, Nat.le_of_ble_eq_true rfl⟩ dX12_wash_24 (fun M8 h => ?_)
  refine ra_aload_n E dX12_wash_27 rfl 0 rfl ?_
  obtain ⟨g9, h⟩ := h
  refine gf_X12_5 E fl_X12_41 dX12_wash_28 ?_
  refine ra_iload_n E dX12_wash_31 rfl 1 rfl ?_
  refine ra_callVV (rest := []) E (c_X2_clean _ (isCanal_of g9) _ _ _ h) (lq_X2 _) cv_X2_clean ml_X12_330 (by decide) (lm ((isCanal_of g9).add (j := 0) (by decide))) (fun R => ⟨_, cel_canal tc ad (isCanal_of g9) R⟩) rfl rfl rfl (Nat.le_of_ble_eq_true rfl) ⟨Nat.le_of_ble_eq_true rfl, Nat.le_of_ble_eq_true rfl⟩ ⟨Nat.le_of_ble_eq_true rfl, Nat.le_of_ble_eq_true rfl⟩ dX12_wash_32 (fun M10 h => ?_)
  refine ra_aload_n E dX12_wash_35 rfl 0 rfl ?_
  refine ra_iload_n E dX12_wash_36 rfl 1 rfl ?_
  refine rx_callAVP (rest := []) E hfl (c_X12_bargeAt _ _ _ _ h) (lq_X12 _) cv_X12_bargeAt ml_X12_144 (by decide) (lm (by decide)) (fun R => ⟨_, cel_0 tc ad R⟩) rfl rfl rfl (Nat.le_of_ble_eq_true rfl) ⟨Nat.le_of_ble_eq_true rfl, Nat.le_of_ble_eq_true rfl⟩ ⟨Nat.le_of_ble_eq_true rfl, Nat.le_of_ble_eq_true rfl⟩ dX12_wash_37 hT ⟨Nat.le_of_ble_eq_true rfl, Nat.le_of_ble_eq_true rfl⟩ (fun _ _ hx => hx) (fun o12 M11 h => ?_)
  obtain ⟨q15, q17⟩ := h
  obtain ⟨x13, g14, q15⟩ := q15
  replace h := q17 x13 g14 q15
  subst q15
  refine gf_X1_5 E g14 fl_X12_165 dX12_wash_40 ?_
  exact rx_iret E hr dX12_wash_43 ⟨Nat.le_of_ble_eq_true rfl, Nat.le_of_ble_eq_true rfl⟩ h
def f_J0_charAt_5068e (a0 : Nat) (p1 : Int32) (M : TM) (K : Int32 → TM → Prop) : Prop := f_J0_isLatin1_aae02 a0 M (fun r2 M1 => ((r2 = 0 → False) ∧ (¬ r2 = 0 → f_J1_charAt_3b067 a0 p1 M1 (fun r6 M5 => K r6 M5))))
set_option maxRecDepth 100000 in
set_option maxHeartbeats 4000000 in
theorem c_J0_charAt_5068e {ad : Nat → Nat} (a0 : Nat) (h0 : a0 < nS) (p1 : Int32) (M : TM) (K : Int32 → TM → Prop) (h : f_J0_charAt_5068e a0 p1 M K) : MI yJ0_charAt_5068e cJ0_charAt_5068e 2 (some .char) 3 ad [.ref (ad (2200 + a0)), .int p1] M (fun r M' => narrow .char (.int r) = .int r ∧ K r M') := by
  refine MI_of RJ0 rfl (by decide +kernel) (Nat.le_of_ble_eq_true rfl) (fun p l e s m below meth c D tc E hr => ?_)
  unfold f_J0_charAt_5068e at h
  refine ra_aload_n E dJ0_charAt_5068e_0 rfl 0 rfl ?_
  refine ra_callIR (rest := []) E (c_J0_isLatin1_aae02 _ h0 _ _ h) (lq_J0 _) cv_J0_isLatin1_aae02 ml_J0_492 (by decide) (rv_str E h0) rfl rfl (Nat.le_of_ble_eq_true rfl) ⟨Nat.le_of_ble_eq_true rfl, Nat.le_of_ble_eq_true rfl⟩ ⟨Nat.zero_le _, Nat.zero_le _⟩ dJ0_charAt_5068e_1 (fun r2 M1 h => ?_)
  obtain ⟨b3, h⟩ := h
  refine ra_if_eq (tgt := 16) E dJ0_charAt_5068e_4 (by decide) (fun q4 => ?_) (fun q4 => ?_)
  · replace h := h.1 q4
    exact h.elim
  · replace h := h.2 q4
    refine ra_aload_n E dJ0_charAt_5068e_7 rfl 0 rfl ?_
    refine gf_sval E h0 fl_J0_9 dJ0_charAt_5068e_8 ?_
    refine ra_iload_n E dJ0_charAt_5068e_11 rfl 1 rfl ?_
    refine ra_callIS (rest := []) E (c_J1_charAt_3b067 _ h0 _ _ _ h) (lq_J1 _) ct_J1_charAt_3b067 ml_J0_495 (by decide) rfl rfl (Nat.le_of_ble_eq_true rfl) ⟨Nat.le_of_ble_eq_true rfl, Nat.le_of_ble_eq_true rfl⟩ ⟨Nat.zero_le _, Nat.zero_le _⟩ dJ0_charAt_5068e_12 (fun r6 M5 h => ?_)
    obtain ⟨b7, h⟩ := h
    exact ra_zret E hr b7 dJ0_charAt_5068e_15 ⟨b7, h⟩
def f_X13_isWord_L39 (a1 : Nat) (K : Int32 → TM → Prop) : Nat → Int32 → Int32 → TM → Prop
  | 0, _, _, _ => False
  | n + 1, x2, x3, M => ((x2 = 0 → (x2 = 0 ∨ x2 = 1) ∧ K x2 M) ∧ (¬ x2 = 0 → f_J0_length_8abf5 a1 M (fun r5 M4 => ((r5 ≤ x3 → (x2 = 0 ∨ x2 = 1) ∧ K x2 M4) ∧ (¬ r5 ≤ x3 → f_J0_charAt_5068e a1 x3 M4 (fun r9 M8 => vp_in ((M8 699 18) + x3) 500 ∧ ((¬ r9 = (M8 707 ((M8 699 18) + x3).toNatClampNeg) → f_X13_isWord_L39 a1 K n (0 : Int32) (x3 + 1) M8) ∧ (r9 = (M8 707 ((M8 699 18) + x3).toNatClampNeg) → f_X13_isWord_L39 a1 K n (1 : Int32) (x3 + 1) M8))))))))
set_option maxRecDepth 100000 in
set_option maxHeartbeats 4000000 in
theorem l_X13_isWord_L39 {p : Program} {l : Launch} {e : Env} {s : State} {m : MethodId} {args : Array Value} {below : List Frame} {meth : Method} {c : Code} {D : va_G} {tc : Nat → ClassId} {ad : Nat → Nat} (a1 : Nat) (h1 : a1 < nS) {K : Int32 → TM → Prop} (E : Ev p s m args meth c D tc ad RX13 cX13_isWord 4) (hr : meth.sig.returnType = (some .boolean)) : ∀ (n : Nat) (x2 : Int32) (x3 : Int32) (M : TM) , f_X13_isWord_L39 a1 K n x2 x3 M → Wa p l e (rmD 4) s m args below meth c 0 0 (MQ below (va_Qi (fun r M' => (r = 0 ∨ r = 1) ∧ K r M') (EndW D tc ad) (A0 ad s.heap.size)) args s 0 0 (A0 ad s.heap.size)) D tc ad 4 M 39 [(0, .ref (ad 699)), (1, .ref (ad (2200 + a1))), (2, .int x2), (3, .int x3)] [] := by
  intro n
  induction n with
  | zero => intro x2 x3 M  h; exact h.elim
  | succ n ih =>
    intro x2 x3 M  h
    unfold f_X13_isWord_L39 at h
    refine ra_iload_n E dX13_isWord_39 rfl 2 rfl ?_
    refine ra_if_eq (tgt := 82) E dX13_isWord_40 (by decide) (fun q2 => ?_) (fun q2 => ?_)
    · replace h := h.1 q2
      refine ra_iload_n E dX13_isWord_82 rfl 2 rfl ?_
      obtain ⟨b3, h⟩ := h
      exact ra_zret E hr (nz_01 b3) dX13_isWord_83 ⟨b3, h⟩
    · replace h := h.2 q2
      refine ra_iload_n E dX13_isWord_43 rfl 3 rfl ?_
      refine ra_aload_n E dX13_isWord_44 rfl 1 rfl ?_
      refine ra_callIR (rest := [_]) E (c_J0_length_8abf5 _ h1 _ _ h) (lq_J0 _) cv_J0_length_8abf5 ml_X13_335 (by decide) (rv_str E h1) rfl rfl (Nat.le_of_ble_eq_true rfl) ⟨Nat.le_of_ble_eq_true rfl, Nat.le_of_ble_eq_true rfl⟩ ⟨Nat.zero_le _, Nat.zero_le _⟩ dX13_isWord_45 (fun r5 M4 h => ?_)
      refine ra_icmp_ge (tgt := 82) E dX13_isWord_48 (by decide) (fun q6 => ?_) (fun q6 => ?_)
      · replace h := h.1 q6
        refine ra_iload_n E dX13_isWord_82 rfl 2 rfl ?_
        obtain ⟨b7, h⟩ := h
        exact ra_zret E hr (nz_01 b7) dX13_isWord_83 ⟨b7, h⟩
      · replace h := h.2 q6
        refine ra_aload_n E dX13_isWord_51 rfl 1 rfl ?_
        refine ra_iload_n E dX13_isWord_52 rfl 3 rfl ?_
        refine ra_callIR (rest := []) E (c_J0_charAt_5068e _ h1 _ _ _ h) (lq_J0 _) cv_J0_charAt_5068e ml_X13_338 (by decide) (rv_str E h1) rfl rfl (Nat.le_of_ble_eq_true rfl) ⟨Nat.le_of_ble_eq_true rfl, Nat.le_of_ble_eq_true rfl⟩ ⟨Nat.zero_le _, Nat.zero_le _⟩ dX13_isWord_53 (fun r9 M8 h => ?_)
        obtain ⟨b10, h⟩ := h
        refine ra_aload_n E dX13_isWord_56 rfl 0 rfl ?_
        refine gf_X13_14 E lm13 fl_X13_34 dX13_isWord_57 ?_
        refine ra_aload_n E dX13_isWord_60 rfl 0 rfl ?_
        refine gf_X13_18 E lm13 fl_X13_311 dX13_isWord_61 ?_
        refine ra_iload_n E dX13_isWord_64 rfl 3 rfl ?_
        refine ra_iadd E dX13_isWord_65 ?_
        obtain ⟨g11, h⟩ := h
        refine ra_iald E (lmM (by decide)) (cel_707 tc ad) g11 dX13_isWord_66 ?_
        refine ra_icmp_ne (tgt := 74) E dX13_isWord_67 (by decide) (fun q12 => ?_) (fun q12 => ?_)
        · replace h := h.1 q12
          refine ra_iconst E dX13_isWord_74 ki_0 ?_
          refine ra_istore_n (L' := [(2, _), (0, _), (1, _), (3, _)]) E dX13_isWord_75 rfl (by decide) rfl ?_
          refine ra_iinc1 (L' := [(3, _), (2, _), (0, _), (1, _)]) E dX13_isWord_76 3 rfl (by decide) rfl ?_
          refine ra_goto (tgt := 39) E dX13_isWord_79 (by decide) ?_
          exact ra_sub (L' := [(0, _), (1, _), (2, _), (3, _)]) [2, 3, 1, 0] rfl (ih _ _ _ h)
        · replace h := h.2 q12
          refine ra_iconst E dX13_isWord_70 ki_1 ?_
          refine ra_goto (tgt := 75) E dX13_isWord_71 (by decide) ?_
          refine ra_istore_n (L' := [(2, _), (0, _), (1, _), (3, _)]) E dX13_isWord_75 rfl (by decide) rfl ?_
          refine ra_iinc1 (L' := [(3, _), (2, _), (0, _), (1, _)]) E dX13_isWord_76 3 rfl (by decide) rfl ?_
          refine ra_goto (tgt := 39) E dX13_isWord_79 (by decide) ?_
          exact ra_sub (L' := [(0, _), (1, _), (2, _), (3, _)]) [2, 3, 1, 0] rfl (ih _ _ _ h)
def f_X13_isWord (a1 : Nat) (M : TM) (K : Int32 → TM → Prop) : Prop := ((¬ (M 699 20) = 0 → ∃ n, f_X13_isWord_L39 a1 K n (0 : Int32) (0 : Int32) M) ∧ ((M 699 20) = 0 → ((¬ (M 699 19) = (1 : Int32) → ∃ n, f_X13_isWord_L39 a1 K n (0 : Int32) (0 : Int32) M) ∧ ((M 699 19) = (1 : Int32) → f_J0_length_8abf5 a1 M (fun r17 M16 => ((¬ r17 = ((M16 699 17) - (M16 699 18)) → ∃ n, f_X13_isWord_L39 a1 K n (0 : Int32) (0 : Int32) M16) ∧ (r17 = ((M16 699 17) - (M16 699 18)) → ∃ n, f_X13_isWord_L39 a1 K n (1 : Int32) (0 : Int32) M16)))))))
set_option maxRecDepth 100000 in
set_option maxHeartbeats 4000000 in
theorem c_X13_isWord {ad : Nat → Nat} (a1 : Nat) (h1 : a1 < nS) (M : TM) (K : Int32 → TM → Prop) (h : f_X13_isWord a1 M K) : MI yX13_isWord cX13_isWord 4 (some .boolean) 4 ad [.ref (ad 699), .ref (ad (2200 + a1))] M (fun r M' => (r = 0 ∨ r = 1) ∧ K r M') := by
  refine MI_of RX13 rfl (by decide +kernel) (Nat.le_of_ble_eq_true rfl) (fun p l e s m below meth c D tc E hr => ?_)
  unfold f_X13_isWord at h
  refine ra_aload_n E dX13_isWord_0 rfl 0 rfl ?_
  refine gf_X13_20 E lm13 fl_X13_323 dX13_isWord_1 ?_
  refine ra_if_ne (tgt := 35) E dX13_isWord_4 (by decide) (fun q1 => ?_) (fun q1 => ?_)
  · replace h := h.1 q1
    refine ra_iconst E dX13_isWord_35 ki_0 ?_
    refine ra_istore_n (L' := [(2, _), (0, _), (1, _)]) E dX13_isWord_36 rfl (by decide) rfl ?_
    refine ra_iconst E dX13_isWord_37 ki_0 ?_
    refine ra_istore_n (L' := [(3, _), (2, _), (0, _), (1, _)]) E dX13_isWord_38 rfl (by decide) rfl ?_
    obtain ⟨n13, h⟩ := h
    exact ra_sub (L' := [(0, _), (1, _), (2, _), (3, _)]) [2, 3, 1, 0] rfl (l_X13_isWord_L39 a1 h1 E hr n13 _ _ _ h)
  · replace h := h.2 q1
    refine ra_aload_n E dX13_isWord_7 rfl 0 rfl ?_
    refine gf_X13_19 E lm13 fl_X13_314 dX13_isWord_8 ?_
    refine ra_iconst E dX13_isWord_11 ki_1 ?_
    refine ra_icmp_ne (tgt := 35) E dX13_isWord_12 (by decide) (fun q14 => ?_) (fun q14 => ?_)
    · replace h := h.1 q14
      refine ra_iconst E dX13_isWord_35 ki_0 ?_
      refine ra_istore_n (L' := [(2, _), (0, _), (1, _)]) E dX13_isWord_36 rfl (by decide) rfl ?_
      refine ra_iconst E dX13_isWord_37 ki_0 ?_
      refine ra_istore_n (L' := [(3, _), (2, _), (0, _), (1, _)]) E dX13_isWord_38 rfl (by decide) rfl ?_
      obtain ⟨n15, h⟩ := h
      exact ra_sub (L' := [(0, _), (1, _), (2, _), (3, _)]) [2, 3, 1, 0] rfl (l_X13_isWord_L39 a1 h1 E hr n15 _ _ _ h)
    · replace h := h.2 q14
      refine ra_aload_n E dX13_isWord_15 rfl 1 rfl ?_
      refine ra_callIR (rest := []) E (c_J0_length_8abf5 _ h1 _ _ h) (lq_J0 _) cv_J0_length_8abf5 ml_X13_335 (by decide) (rv_str E h1) rfl rfl (Nat.le_of_ble_eq_true rfl) ⟨Nat.le_of_ble_eq_true rfl, Nat.le_of_ble_eq_true rfl⟩ ⟨Nat.zero_le _, Nat.zero_le _⟩ dX13_isWord_16 (fun r17 M16 h => ?_)
      refine ra_aload_n E dX13_isWord_19 rfl 0 rfl ?_
      refine gf_X13_17 E lm13 fl_X13_308 dX13_isWord_20 ?_
      refine ra_aload_n E dX13_isWord_23 rfl 0 rfl ?_
      refine gf_X13_18 E lm13 fl_X13_311 dX13_isWord_24 ?_
      refine ra_isub E dX13_isWord_27 ?_
      refine ra_icmp_ne (tgt := 35) E dX13_isWord_28 (by decide) (fun q18 => ?_) (fun q18 => ?_)
      · replace h := h.1 q18
        refine ra_iconst E dX13_isWord_35 ki_0 ?_
        refine ra_istore_n (L' := [(2, _), (0, _), (1, _)]) E dX13_isWord_36 rfl (by decide) rfl ?_
        refine ra_iconst E dX13_isWord_37 ki_0 ?_
        refine ra_istore_n (L' := [(3, _), (2, _), (0, _), (1, _)]) E dX13_isWord_38 rfl (by decide) rfl ?_
        obtain ⟨n19, h⟩ := h
        exact ra_sub (L' := [(0, _), (1, _), (2, _), (3, _)]) [2, 3, 1, 0] rfl (l_X13_isWord_L39 a1 h1 E hr n19 _ _ _ h)
      · replace h := h.2 q18
        refine ra_iconst E dX13_isWord_31 ki_1 ?_
        refine ra_goto (tgt := 36) E dX13_isWord_32 (by decide) ?_
        refine ra_istore_n (L' := [(2, _), (0, _), (1, _)]) E dX13_isWord_36 rfl (by decide) rfl ?_
        refine ra_iconst E dX13_isWord_37 ki_0 ?_
        refine ra_istore_n (L' := [(3, _), (2, _), (0, _), (1, _)]) E dX13_isWord_38 rfl (by decide) rfl ?_
        obtain ⟨n20, h⟩ := h
        exact ra_sub (L' := [(0, _), (1, _), (2, _), (3, _)]) [2, 3, 1, 0] rfl (l_X13_isWord_L39 a1 h1 E hr n20 _ _ _ h)
def f_X13_readBarge_L35  (K : TM → Prop) (z0 : Int32) (M : TM) : Prop := f_X13_check z0 (4 : Int32) M (fun M6 => f_X13_advance M6 (fun M7 => vp_in (M7 699 6) 2 ∧ vp_in (1 : Int32) 377 ∧ f_X13_readNumber (0 : Int32) ((M7 (700 + (M7 699 6).toNatClampNeg) (1 : Int32).toNatClampNeg) - (1 : Int32)) M7 (fun r11 M10 => f_X13_readNumber (1 : Int32) (9 : Int32) M10 (fun r13 M12 => f_X13_readNumber (0 : Int32) (99 : Int32) M12 (fun r15 M14 => f_X13_readNumber (0 : Int32) (99 : Int32) M14 (fun r17 M16 => f_X13_expect (59 : Int32) M16 (fun M18 => ((¬ (M18 699 20) = 0 → K M18) ∧ ((M18 699 20) = 0 → f_X13_addBarge r11 r13 r15 r17 M18 (fun M20 => K M20))))))))))
set_option maxRecDepth 100000 in
set_option maxHeartbeats 4000000 in
theorem l_X13_readBarge_L35 {p : Program} {l : Launch} {e : Env} {s : State} {m : MethodId} {args : Array Value} {below : List Frame} {meth : Method} {c : Code} {D : va_G} {tc : Nat → ClassId} {ad : Nat → Nat}  {K : TM → Prop} (E : Ev p s m args meth c D tc ad RX13 cX13_readBarge 5) (hr : meth.sig.returnType = none) : ∀ (z0 : Int32) (M : TM) , f_X13_readBarge_L35  K z0 M → Wa p l e (rmD 5) s m args below meth c 0 0 (MQ below (va_Qv K (EndW D tc ad) (A0 ad s.heap.size)) args s 0 0 (A0 ad s.heap.size)) D tc ad 5 M 35 [(0, .ref (ad 699))] [.int z0, .ref (ad 699)] := by
  intro z0 M  h
  unfold f_X13_readBarge_L35 at h
  refine ra_iconst E dX13_readBarge_35 ki_4 ?_
  refine ra_callVV (rest := []) E (c_X13_check _ _ _ _ h) lq_13 cv_X13_check ml_X13_349 (by decide) (lmM (by decide)) (fun R => ⟨_, cel_699 tc ad R⟩) rfl rfl rfl (Nat.le_of_ble_eq_true rfl) ⟨Nat.le_of_ble_eq_true rfl, Nat.le_of_ble_eq_true rfl⟩ ⟨Nat.zero_le _, Nat.zero_le _⟩ dX13_readBarge_36 (fun M6 h => ?_)
  refine ra_aload_n E dX13_readBarge_39 rfl 0 rfl ?_
  refine ra_callVV (rest := []) E (c_X13_advance _ _ h) lq_13 cv_X13_advance ml_X13_353 (by decide) (lmM (by decide)) (fun R => ⟨_, cel_699 tc ad R⟩) rfl rfl rfl (Nat.le_of_ble_eq_true rfl) ⟨Nat.le_of_ble_eq_true rfl, Nat.le_of_ble_eq_true rfl⟩ ⟨Nat.zero_le _, Nat.zero_le _⟩ dX13_readBarge_40 (fun M7 h => ?_)
  refine ra_aload_n E dX13_readBarge_43 rfl 0 rfl ?_
  refine ra_iconst E dX13_readBarge_44 ki_0 ?_
  refine ra_aload_n E dX13_readBarge_45 rfl 0 rfl ?_
  obtain ⟨g8, h⟩ := h
  refine gf_X13_6 E lm13 fl_X13_28 dX13_readBarge_46 ?_
  refine ra_iconst E dX13_readBarge_49 ki_1 ?_
  obtain ⟨g9, h⟩ := h
  refine ra_iald E (lmM (isRow_of g8).lt) (cel_row tc ad (isRow_of g8)) g9 dX13_readBarge_50 ?_
  refine ra_iconst E dX13_readBarge_51 ki_1 ?_
  refine ra_isub E dX13_readBarge_52 ?_
  refine ra_callIV (rest := []) E (c_X13_readNumber _ _ _ _ h) lq_13 cv_X13_readNumber ml_X13_369 (by decide) (lmM (by decide)) (fun R => ⟨_, cel_699 tc ad R⟩) rfl rfl rfl (Nat.le_of_ble_eq_true rfl) ⟨Nat.le_of_ble_eq_true rfl, Nat.le_of_ble_eq_true rfl⟩ ⟨Nat.zero_le _, Nat.zero_le _⟩ dX13_readBarge_53 (fun r11 M10 h => ?_)
  refine ra_istore_n (L' := [(1, _), (0, _)]) E dX13_readBarge_56 rfl (by decide) rfl ?_
  refine ra_aload_n E dX13_readBarge_57 rfl 1 rfl ?_
  refine ra_iconst E dX13_readBarge_58 ki_1 ?_
  refine ra_bipush E dX13_readBarge_59 kb_9 ?_
  refine ra_callIV (rest := []) E (c_X13_readNumber _ _ _ _ h) lq_13 cv_X13_readNumber ml_X13_369 (by decide) (lmM (by decide)) (fun R => ⟨_, cel_699 tc ad R⟩) rfl rfl rfl (Nat.le_of_ble_eq_true rfl) ⟨Nat.le_of_ble_eq_true rfl, Nat.le_of_ble_eq_true rfl⟩ ⟨Nat.zero_le _, Nat.zero_le _⟩ dX13_readBarge_61 (fun r13 M12 h => ?_)
  refine ra_istore_n (L' := [(2, _), (1, _), (0, _)]) E dX13_readBarge_64 rfl (by decide) rfl ?_
  refine ra_aload_n E dX13_readBarge_65 rfl 2 rfl ?_
  refine ra_iconst E dX13_readBarge_66 ki_0 ?_
  refine ra_bipush E dX13_readBarge_67 kb_99 ?_
  refine ra_callIV (rest := []) E (c_X13_readNumber _ _ _ _ h) lq_13 cv_X13_readNumber ml_X13_369 (by decide) (lmM (by decide)) (fun R => ⟨_, cel_699 tc ad R⟩) rfl rfl rfl (Nat.le_of_ble_eq_true rfl) ⟨Nat.le_of_ble_eq_true rfl, Nat.le_of_ble_eq_true rfl⟩ ⟨Nat.zero_le _, Nat.zero_le _⟩ dX13_readBarge_69 (fun r15 M14 h => ?_)
  refine ra_istore_n (L' := [(3, _), (2, _), (1, _), (0, _)]) E dX13_readBarge_72 rfl (by decide) rfl ?_
  refine ra_aload_n E dX13_readBarge_73 rfl 3 rfl ?_
  refine ra_iconst E dX13_readBarge_74 ki_0 ?_
  refine ra_bipush E dX13_readBarge_75 kb_99 ?_
  refine ra_callIV (rest := []) E (c_X13_readNumber _ _ _ _ h) lq_13 cv_X13_readNumber ml_X13_369 (by decide) (lmM (by decide)) (fun R => ⟨_, cel_699 tc ad R⟩) rfl rfl rfl (Nat.le_of_ble_eq_true rfl) ⟨Nat.le_of_ble_eq_true rfl, Nat.le_of_ble_eq_true rfl⟩ ⟨Nat.zero_le _, Nat.zero_le _⟩ dX13_readBarge_77 (fun r17 M16 h => ?_)
  refine ra_istore (L' := [(4, _), (3, _), (2, _), (1, _), (0, _)]) E dX13_readBarge_80 (by decide) rfl ?_
  refine ra_aload_n E dX13_readBarge_82 rfl 4 rfl ?_
  refine ra_bipush E dX13_readBarge_83 kb_59 ?_
  refine ra_callVV (rest := []) E (c_X13_expect _ _ _ h) lq_13 cv_X13_expect ml_X13_372 (by decide) (lmM (by decide)) (fun R => ⟨_, cel_699 tc ad R⟩) rfl rfl rfl (Nat.le_of_ble_eq_true rfl) ⟨Nat.le_of_ble_eq_true rfl, Nat.le_of_ble_eq_true rfl⟩ ⟨Nat.zero_le _, Nat.zero_le _⟩ dX13_readBarge_85 (fun M18 h => ?_)
  refine ra_aload_n E dX13_readBarge_88 rfl 4 rfl ?_
  refine gf_X13_20 E lm13 fl_X13_323 dX13_readBarge_89 ?_
  refine ra_if_ne (tgt := 104) E dX13_readBarge_92 (by decide) (fun q19 => ?_) (fun q19 => ?_)
  · replace h := h.1 q19
    exact ra_vret E hr dX13_readBarge_104 h
  · replace h := h.2 q19
    refine ra_aload_n E dX13_readBarge_95 rfl 4 rfl ?_
    refine ra_iload_n E dX13_readBarge_96 rfl 3 rfl ?_
    refine ra_iload_n E dX13_readBarge_97 rfl 2 rfl ?_
    refine ra_iload_n E dX13_readBarge_98 rfl 1 rfl ?_
    refine ra_iload E dX13_readBarge_99 0 rfl ?_
    refine ra_callVV (rest := []) E (c_X13_addBarge _ _ _ _ _ _ h) lq_13 cv_X13_addBarge ml_X13_72 (by decide) (lmM (by decide)) (fun R => ⟨_, cel_699 tc ad R⟩) rfl rfl rfl (Nat.le_of_ble_eq_true rfl) ⟨Nat.le_of_ble_eq_true rfl, Nat.le_of_ble_eq_true rfl⟩ ⟨Nat.zero_le _, Nat.zero_le _⟩ dX13_readBarge_101 (fun M20 h => ?_)
    exact ra_vret E hr dX13_readBarge_104 h
def f_X13_readBarge_L30  (K : TM → Prop)  (M : TM) : Prop := f_X13_readBarge_L35 K (1 : Int32) M
set_option maxRecDepth 100000 in
set_option maxHeartbeats 4000000 in
theorem l_X13_readBarge_L30 {p : Program} {l : Launch} {e : Env} {s : State} {m : MethodId} {args : Array Value} {below : List Frame} {meth : Method} {c : Code} {D : va_G} {tc : Nat → ClassId} {ad : Nat → Nat}  {K : TM → Prop} (E : Ev p s m args meth c D tc ad RX13 cX13_readBarge 5) (hr : meth.sig.returnType = none) : ∀  (M : TM) , f_X13_readBarge_L30  K  M → Wa p l e (rmD 5) s m args below meth c 0 0 (MQ below (va_Qv K (EndW D tc ad) (A0 ad s.heap.size)) args s 0 0 (A0 ad s.heap.size)) D tc ad 5 M 30 [(0, .ref (ad 699))] [.ref (ad 699)] := by
  intro  M  h
  unfold f_X13_readBarge_L30 at h
  refine ra_iconst E dX13_readBarge_30 ki_1 ?_
  refine ra_goto (tgt := 35) E dX13_readBarge_31 (by decide) ?_
  exact ra_sub (L' := [(0, _)]) [0] rfl (l_X13_readBarge_L35 E hr _ _ h)
def f_X13_readBarge  (M : TM) (K : TM → Prop) : Prop := f_X13_isWord 12 M (fun r2 M1 => f_X13_check r2 (1 : Int32) M1 (fun M4 => ((¬ (M4 699 20) = 0 → f_X13_readBarge_L30 K M4) ∧ ((M4 699 20) = 0 → vp_in (M4 699 6) 2 ∧ vp_in (2 : Int32) 377 ∧ (((5 : Int32) ≤ (M4 (700 + (M4 699 6).toNatClampNeg) (2 : Int32).toNatClampNeg) → f_X13_readBarge_L35 K (0 : Int32) M4) ∧ (¬ (5 : Int32) ≤ (M4 (700 + (M4 699 6).toNatClampNeg) (2 : Int32).toNatClampNeg) → f_X13_readBarge_L30 K M4))))))
set_option maxRecDepth 100000 in
set_option maxHeartbeats 4000000 in
theorem c_X13_readBarge {ad : Nat → Nat}  (M : TM) (K : TM → Prop) (h : f_X13_readBarge  M K) : MV yX13_readBarge cX13_readBarge 5 5 ad [.ref (ad 699)] M K := by
  refine MV_of RX13 rfl (by decide +kernel) (Nat.le_of_ble_eq_true rfl) (fun p l e s m below meth c D tc E hr => ?_)
  unfold f_X13_readBarge at h
  refine ra_aload_n E dX13_readBarge_0 rfl 0 rfl ?_
  refine ra_aload_n E dX13_readBarge_1 rfl 0 rfl ?_
  refine ra_ldcSw E sr_X13_375 dX13_readBarge_2 ?_
  refine ra_callIV (rest := [_]) E (c_X13_isWord _ (Nat.le_of_ble_eq_true rfl) _ _ h) lq_13 cv_X13_isWord ml_X13_342 (by decide) (lmM (by decide)) (fun R => ⟨_, cel_699 tc ad R⟩) rfl rfl rfl (Nat.le_of_ble_eq_true rfl) ⟨Nat.le_of_ble_eq_true rfl, Nat.le_of_ble_eq_true rfl⟩ ⟨Nat.zero_le _, Nat.zero_le _⟩ dX13_readBarge_5 (fun r2 M1 h => ?_)
  obtain ⟨b3, h⟩ := h
  refine ra_iconst E dX13_readBarge_8 ki_1 ?_
  refine ra_callVV (rest := []) E (c_X13_check _ _ _ _ h) lq_13 cv_X13_check ml_X13_349 (by decide) (lmM (by decide)) (fun R => ⟨_, cel_699 tc ad R⟩) rfl rfl rfl (Nat.le_of_ble_eq_true rfl) ⟨Nat.le_of_ble_eq_true rfl, Nat.le_of_ble_eq_true rfl⟩ ⟨Nat.zero_le _, Nat.zero_le _⟩ dX13_readBarge_9 (fun M4 h => ?_)
  refine ra_aload_n E dX13_readBarge_12 rfl 0 rfl ?_
  refine ra_aload_n E dX13_readBarge_13 rfl 0 rfl ?_
  refine gf_X13_20 E lm13 fl_X13_323 dX13_readBarge_14 ?_
  refine ra_if_ne (tgt := 30) E dX13_readBarge_17 (by decide) (fun q5 => ?_) (fun q5 => ?_)
  · replace h := h.1 q5
    exact ra_sub (L' := [(0, _)]) [0] rfl (l_X13_readBarge_L30 E hr _ h)
  · replace h := h.2 q5
    refine ra_aload_n E dX13_readBarge_20 rfl 0 rfl ?_
    obtain ⟨g21, h⟩ := h
    refine gf_X13_6 E lm13 fl_X13_28 dX13_readBarge_21 ?_
    refine ra_iconst E dX13_readBarge_24 ki_2 ?_
    obtain ⟨g22, h⟩ := h
    refine ra_iald E (lmM (isRow_of g21).lt) (cel_row tc ad (isRow_of g21)) g22 dX13_readBarge_25 ?_
    refine ra_iconst E dX13_readBarge_26 ki_5 ?_
    refine ra_icmp_ge (tgt := 34) E dX13_readBarge_27 (by decide) (fun q23 => ?_) (fun q23 => ?_)
    · replace h := h.1 q23
      refine ra_iconst E dX13_readBarge_34 ki_0 ?_
      exact ra_sub (L' := [(0, _)]) [0] rfl (l_X13_readBarge_L35 E hr _ _ h)
    · replace h := h.2 q23
      exact ra_sub (L' := [(0, _)]) [0] rfl (l_X13_readBarge_L30 E hr _ h)
def f_X13_readOrder_L35  (K : TM → Prop) (z0 : Int32) (M : TM) : Prop := f_X13_check z0 (4 : Int32) M (fun M6 => f_X13_advance M6 (fun M7 => vp_in (M7 699 6) 2 ∧ vp_in (1 : Int32) 377 ∧ f_X13_readNumber (0 : Int32) ((M7 (700 + (M7 699 6).toNatClampNeg) (1 : Int32).toNatClampNeg) - (1 : Int32)) M7 (fun r11 M10 => f_X13_readNumber (1 : Int32) (4 : Int32) M10 (fun r13 M12 => f_X13_readNumber (1 : Int32) (6 : Int32) M12 (fun r15 M14 => f_X13_readNumber (1 : Int32) (500 : Int32) M14 (fun r17 M16 => f_X13_expect (59 : Int32) M16 (fun M18 => ((¬ (M18 699 20) = 0 → K M18) ∧ ((M18 699 20) = 0 → f_X13_addOrder r11 r13 r15 r17 M18 (fun M20 => K M20))))))))))
set_option maxRecDepth 100000 in
set_option maxHeartbeats 4000000 in
theorem l_X13_readOrder_L35 {p : Program} {l : Launch} {e : Env} {s : State} {m : MethodId} {args : Array Value} {below : List Frame} {meth : Method} {c : Code} {D : va_G} {tc : Nat → ClassId} {ad : Nat → Nat}  {K : TM → Prop} (E : Ev p s m args meth c D tc ad RX13 cX13_readOrder 5) (hr : meth.sig.returnType = none) : ∀ (z0 : Int32) (M : TM) , f_X13_readOrder_L35  K z0 M → Wa p l e (rmD 5) s m args below meth c 0 0 (MQ below (va_Qv K (EndW D tc ad) (A0 ad s.heap.size)) args s 0 0 (A0 ad s.heap.size)) D tc ad 5 M 35 [(0, .ref (ad 699))] [.int z0, .ref (ad 699)] := by
  intro z0 M  h
  unfold f_X13_readOrder_L35 at h
  refine ra_iconst E dX13_readOrder_35 ki_4 ?_
  refine ra_callVV (rest := []) E (c_X13_check _ _ _ _ h) lq_13 cv_X13_check ml_X13_349 (by decide) (lmM (by decide)) (fun R => ⟨_, cel_699 tc ad R⟩) rfl rfl rfl (Nat.le_of_ble_eq_true rfl) ⟨Nat.le_of_ble_eq_true rfl, Nat.le_of_ble_eq_true rfl⟩ ⟨Nat.zero_le _, Nat.zero_le _⟩ dX13_readOrder_36 (fun M6 h => ?_)
  refine ra_aload_n E dX13_readOrder_39 rfl 0 rfl ?_
  refine ra_callVV (rest := []) E (c_X13_advance _ _ h) lq_13 cv_X13_advance ml_X13_353 (by decide) (lmM (by decide)) (fun R => ⟨_, cel_699 tc ad R⟩) rfl rfl rfl (Nat.le_of_ble_eq_true rfl) ⟨Nat.le_of_ble_eq_true rfl, Nat.le_of_ble_eq_true rfl⟩ ⟨Nat.zero_le _, Nat.zero_le _⟩ dX13_readOrder_40 (fun M7 h => ?_)
  refine ra_aload_n E dX13_readOrder_43 rfl 0 rfl ?_
  refine ra_iconst E dX13_readOrder_44 ki_0 ?_
  refine ra_aload_n E dX13_readOrder_45 rfl 0 rfl ?_
  obtain ⟨g8, h⟩ := h
  refine gf_X13_6 E lm13 fl_X13_28 dX13_readOrder_46 ?_
  refine ra_iconst E dX13_readOrder_49 ki_1 ?_
  obtain ⟨g9, h⟩ := h
  refine ra_iald E (lmM (isRow_of g8).lt) (cel_row tc ad (isRow_of g8)) g9 dX13_readOrder_50 ?_
  refine ra_iconst E dX13_readOrder_51 ki_1 ?_
  refine ra_isub E dX13_readOrder_52 ?_
  refine ra_callIV (rest := []) E (c_X13_readNumber _ _ _ _ h) lq_13 cv_X13_readNumber ml_X13_369 (by decide) (lmM (by decide)) (fun R => ⟨_, cel_699 tc ad R⟩) rfl rfl rfl (Nat.le_of_ble_eq_true rfl) ⟨Nat.le_of_ble_eq_true rfl, Nat.le_of_ble_eq_true rfl⟩ ⟨Nat.zero_le _, Nat.zero_le _⟩ dX13_readOrder_53 (fun r11 M10 h => ?_)
  refine ra_istore_n (L' := [(1, _), (0, _)]) E dX13_readOrder_56 rfl (by decide) rfl ?_
  refine ra_aload_n E dX13_readOrder_57 rfl 1 rfl ?_
  refine ra_iconst E dX13_readOrder_58 ki_1 ?_
  refine ra_iconst E dX13_readOrder_59 ki_4 ?_
  refine ra_callIV (rest := []) E (c_X13_readNumber _ _ _ _ h) lq_13 cv_X13_readNumber ml_X13_369 (by decide) (lmM (by decide)) (fun R => ⟨_, cel_699 tc ad R⟩) rfl rfl rfl (Nat.le_of_ble_eq_true rfl) ⟨Nat.le_of_ble_eq_true rfl, Nat.le_of_ble_eq_true rfl⟩ ⟨Nat.zero_le _, Nat.zero_le _⟩ dX13_readOrder_60 (fun r13 M12 h => ?_)
  refine ra_istore_n (L' := [(2, _), (1, _), (0, _)]) E dX13_readOrder_63 rfl (by decide) rfl ?_
  refine ra_aload_n E dX13_readOrder_64 rfl 2 rfl ?_
  refine ra_iconst E dX13_readOrder_65 ki_1 ?_
  refine ra_bipush E dX13_readOrder_66 kb_6 ?_
  refine ra_callIV (rest := []) E (c_X13_readNumber _ _ _ _ h) lq_13 cv_X13_readNumber ml_X13_369 (by decide) (lmM (by decide)) (fun R => ⟨_, cel_699 tc ad R⟩) rfl rfl rfl (Nat.le_of_ble_eq_true rfl) ⟨Nat.le_of_ble_eq_true rfl, Nat.le_of_ble_eq_true rfl⟩ ⟨Nat.zero_le _, Nat.zero_le _⟩ dX13_readOrder_68 (fun r15 M14 h => ?_)
  refine ra_istore_n (L' := [(3, _), (2, _), (1, _), (0, _)]) E dX13_readOrder_71 rfl (by decide) rfl ?_
  refine ra_aload_n E dX13_readOrder_72 rfl 3 rfl ?_
  refine ra_iconst E dX13_readOrder_73 ki_1 ?_
  refine ra_sipush E dX13_readOrder_74 ks_500 ?_
  refine ra_callIV (rest := []) E (c_X13_readNumber _ _ _ _ h) lq_13 cv_X13_readNumber ml_X13_369 (by decide) (lmM (by decide)) (fun R => ⟨_, cel_699 tc ad R⟩) rfl rfl rfl (Nat.le_of_ble_eq_true rfl) ⟨Nat.le_of_ble_eq_true rfl, Nat.le_of_ble_eq_true rfl⟩ ⟨Nat.zero_le _, Nat.zero_le _⟩ dX13_readOrder_77 (fun r17 M16 h => ?_)
  refine ra_istore (L' := [(4, _), (3, _), (2, _), (1, _), (0, _)]) E dX13_readOrder_80 (by decide) rfl ?_
  refine ra_aload_n E dX13_readOrder_82 rfl 4 rfl ?_
  refine ra_bipush E dX13_readOrder_83 kb_59 ?_
  refine ra_callVV (rest := []) E (c_X13_expect _ _ _ h) lq_13 cv_X13_expect ml_X13_372 (by decide) (lmM (by decide)) (fun R => ⟨_, cel_699 tc ad R⟩) rfl rfl rfl (Nat.le_of_ble_eq_true rfl) ⟨Nat.le_of_ble_eq_true rfl, Nat.le_of_ble_eq_true rfl⟩ ⟨Nat.zero_le _, Nat.zero_le _⟩ dX13_readOrder_85 (fun M18 h => ?_)
  refine ra_aload_n E dX13_readOrder_88 rfl 4 rfl ?_
  refine gf_X13_20 E lm13 fl_X13_323 dX13_readOrder_89 ?_
  refine ra_if_ne (tgt := 104) E dX13_readOrder_92 (by decide) (fun q19 => ?_) (fun q19 => ?_)
  · replace h := h.1 q19
    exact ra_vret E hr dX13_readOrder_104 h
  · replace h := h.2 q19
    refine ra_aload_n E dX13_readOrder_95 rfl 4 rfl ?_
    refine ra_iload_n E dX13_readOrder_96 rfl 3 rfl ?_
    refine ra_iload_n E dX13_readOrder_97 rfl 2 rfl ?_
    refine ra_iload_n E dX13_readOrder_98 rfl 1 rfl ?_
    refine ra_iload E dX13_readOrder_99 0 rfl ?_
    refine ra_callVV (rest := []) E (c_X13_addOrder _ _ _ _ _ _ h) lq_13 cv_X13_addOrder ml_X13_76 (by decide) (lmM (by decide)) (fun R => ⟨_, cel_699 tc ad R⟩) rfl rfl rfl (Nat.le_of_ble_eq_true rfl) ⟨Nat.le_of_ble_eq_true rfl, Nat.le_of_ble_eq_true rfl⟩ ⟨Nat.zero_le _, Nat.zero_le _⟩ dX13_readOrder_101 (fun M20 h => ?_)
    exact ra_vret E hr dX13_readOrder_104 h
def f_X13_readOrder_L30  (K : TM → Prop)  (M : TM) : Prop := f_X13_readOrder_L35 K (1 : Int32) M
set_option maxRecDepth 100000 in
set_option maxHeartbeats 4000000 in
theorem l_X13_readOrder_L30 {p : Program} {l : Launch} {e : Env} {s : State} {m : MethodId} {args : Array Value} {below : List Frame} {meth : Method} {c : Code} {D : va_G} {tc : Nat → ClassId} {ad : Nat → Nat}  {K : TM → Prop} (E : Ev p s m args meth c D tc ad RX13 cX13_readOrder 5) (hr : meth.sig.returnType = none) : ∀  (M : TM) , f_X13_readOrder_L30  K  M → Wa p l e (rmD 5) s m args below meth c 0 0 (MQ below (va_Qv K (EndW D tc ad) (A0 ad s.heap.size)) args s 0 0 (A0 ad s.heap.size)) D tc ad 5 M 30 [(0, .ref (ad 699))] [.ref (ad 699)] := by
  intro  M  h
  unfold f_X13_readOrder_L30 at h
  refine ra_iconst E dX13_readOrder_30 ki_1 ?_
  refine ra_goto (tgt := 35) E dX13_readOrder_31 (by decide) ?_
  exact ra_sub (L' := [(0, _)]) [0] rfl (l_X13_readOrder_L35 E hr _ _ h)
def f_X13_readOrder  (M : TM) (K : TM → Prop) : Prop := f_X13_isWord 1 M (fun r2 M1 => f_X13_check r2 (1 : Int32) M1 (fun M4 => ((¬ (M4 699 20) = 0 → f_X13_readOrder_L30 K M4) ∧ ((M4 699 20) = 0 → vp_in (M4 699 6) 2 ∧ vp_in (3 : Int32) 377 ∧ (((30 : Int32) ≤ (M4 (700 + (M4 699 6).toNatClampNeg) (3 : Int32).toNatClampNeg) → f_X13_readOrder_L35 K (0 : Int32) M4) ∧ (¬ (30 : Int32) ≤ (M4 (700 + (M4 699 6).toNatClampNeg) (3 : Int32).toNatClampNeg) → f_X13_readOrder_L30 K M4))))))
set_option maxRecDepth 100000 in
set_option maxHeartbeats 4000000 in
theorem c_X13_readOrder {ad : Nat → Nat}  (M : TM) (K : TM → Prop) (h : f_X13_readOrder  M K) : MV yX13_readOrder cX13_readOrder 5 5 ad [.ref (ad 699)] M K := by
  refine MV_of RX13 rfl (by decide +kernel) (Nat.le_of_ble_eq_true rfl) (fun p l e s m below meth c D tc E hr => ?_)
  unfold f_X13_readOrder at h
  refine ra_aload_n E dX13_readOrder_0 rfl 0 rfl ?_
  refine ra_aload_n E dX13_readOrder_1 rfl 0 rfl ?_
  refine ra_ldcS E sr_X13_48 dX13_readOrder_2 ?_
  refine ra_callIV (rest := [_]) E (c_X13_isWord _ (Nat.le_of_ble_eq_true rfl) _ _ h) lq_13 cv_X13_isWord ml_X13_342 (by decide) (lmM (by decide)) (fun R => ⟨_, cel_699 tc ad R⟩) rfl rfl rfl (Nat.le_of_ble_eq_true rfl) ⟨Nat.le_of_ble_eq_true rfl, Nat.le_of_ble_eq_true rfl⟩ ⟨Nat.zero_le _, Nat.zero_le _⟩ dX13_readOrder_4 (fun r2 M1 h => ?_)
  obtain ⟨b3, h⟩ := h
  refine ra_iconst E dX13_readOrder_7 ki_1 ?_
  refine ra_callVV (rest := []) E (c_X13_check _ _ _ _ h) lq_13 cv_X13_check ml_X13_349 (by decide) (lmM (by decide)) (fun R => ⟨_, cel_699 tc ad R⟩) rfl rfl rfl (Nat.le_of_ble_eq_true rfl) ⟨Nat.le_of_ble_eq_true rfl, Nat.le_of_ble_eq_true rfl⟩ ⟨Nat.zero_le _, Nat.zero_le _⟩ dX13_readOrder_8 (fun M4 h => ?_)
  refine ra_aload_n E dX13_readOrder_11 rfl 0 rfl ?_
  refine ra_aload_n E dX13_readOrder_12 rfl 0 rfl ?_
  refine gf_X13_20 E lm13 fl_X13_323 dX13_readOrder_13 ?_
  refine ra_if_ne (tgt := 30) E dX13_readOrder_16 (by decide) (fun q5 => ?_) (fun q5 => ?_)
  · replace h := h.1 q5
    exact ra_sub (L' := [(0, _)]) [0] rfl (l_X13_readOrder_L30 E hr _ h)
  · replace h := h.2 q5
    refine ra_aload_n E dX13_readOrder_19 rfl 0 rfl ?_
    obtain ⟨g21, h⟩ := h
    refine gf_X13_6 E lm13 fl_X13_28 dX13_readOrder_20 ?_
    refine ra_iconst E dX13_readOrder_23 ki_3 ?_
    obtain ⟨g22, h⟩ := h
    refine ra_iald E (lmM (isRow_of g21).lt) (cel_row tc ad (isRow_of g21)) g22 dX13_readOrder_24 ?_
    refine ra_bipush E dX13_readOrder_25 kb_30 ?_
    refine ra_icmp_ge (tgt := 34) E dX13_readOrder_27 (by decide) (fun q23 => ?_) (fun q23 => ?_)
    · replace h := h.1 q23
      refine ra_iconst E dX13_readOrder_34 ki_0 ?_
      exact ra_sub (L' := [(0, _)]) [0] rfl (l_X13_readOrder_L35 E hr _ _ h)
    · replace h := h.2 q23
      exact ra_sub (L' := [(0, _)]) [0] rfl (l_X13_readOrder_L30 E hr _ h)
def f_X13_readCanal_L100  (K : TM → Prop) : Nat → TM → Prop
  | 0, _ => False
  | n + 1, M => ((¬ (M 699 20) = 0 → K M) ∧ ((M 699 20) = 0 → (((M 699 19) = 0 → K M) ∧ (¬ (M 699 19) = 0 → f_X13_readOrder M (fun M31 => f_X13_readCanal_L100 K n M31)))))
set_option maxRecDepth 100000 in
set_option maxHeartbeats 4000000 in
theorem l_X13_readCanal_L100 {p : Program} {l : Launch} {e : Env} {s : State} {m : MethodId} {args : Array Value} {below : List Frame} {meth : Method} {c : Code} {D : va_G} {tc : Nat → ClassId} {ad : Nat → Nat}  {K : TM → Prop} (E : Ev p s m args meth c D tc ad RX13 cX13_readCanal 2) (hr : meth.sig.returnType = none) : ∀ (n : Nat)  (M : TM) , f_X13_readCanal_L100  K n  M → Wa p l e (rmD 6) s m args below meth c 0 0 (MQ below (va_Qv K (EndW D tc ad) (A0 ad s.heap.size)) args s 0 0 (A0 ad s.heap.size)) D tc ad 2 M 100 [(0, .ref (ad 699))] [] := by
  intro n
  induction n with
  | zero => intro  M  h; exact h.elim
  | succ n ih =>
    intro  M  h
    unfold f_X13_readCanal_L100 at h
    refine ra_aload_n E dX13_readCanal_100 rfl 0 rfl ?_
    refine gf_X13_20 E lm13 fl_X13_323 dX13_readCanal_101 ?_
    refine ra_if_ne (tgt := 121) E dX13_readCanal_104 (by decide) (fun q29 => ?_) (fun q29 => ?_)
    · replace h := h.1 q29
      exact ra_vret E hr dX13_readCanal_121 h
    · replace h := h.2 q29
      refine ra_aload_n E dX13_readCanal_107 rfl 0 rfl ?_
      refine gf_X13_19 E lm13 fl_X13_314 dX13_readCanal_108 ?_
      refine ra_if_eq (tgt := 121) E dX13_readCanal_111 (by decide) (fun q30 => ?_) (fun q30 => ?_)
      · replace h := h.1 q30
        exact ra_vret E hr dX13_readCanal_121 h
      · replace h := h.2 q30
        refine ra_aload_n E dX13_readCanal_114 rfl 0 rfl ?_
        refine ra_callVV (rest := []) E (c_X13_readOrder _ _ h) lq_13 cv_X13_readOrder ml_X13_389 (by decide) (lmM (by decide)) (fun R => ⟨_, cel_699 tc ad R⟩) rfl rfl rfl (Nat.le_of_ble_eq_true rfl) ⟨Nat.le_of_ble_eq_true rfl, Nat.le_of_ble_eq_true rfl⟩ ⟨Nat.zero_le _, Nat.zero_le _⟩ dX13_readCanal_115 (fun M31 h => ?_)
        refine ra_goto (tgt := 100) E dX13_readCanal_118 (by decide) ?_
        exact ra_sub (L' := [(0, _)]) [0] rfl (ih _ h)
def f_X13_readCanal_L83  (K : TM → Prop) : Nat → TM → Prop
  | 0, _ => False
  | n + 1, M => f_X13_isWord 12 M (fun r26 M25 => ((r26 = 0 → ∃ n, f_X13_readCanal_L100 K n M25) ∧ (¬ r26 = 0 → f_X13_readBarge M25 (fun M33 => f_X13_readCanal_L83 K n M33))))
set_option maxRecDepth 100000 in
set_option maxHeartbeats 4000000 in
theorem l_X13_readCanal_L83 {p : Program} {l : Launch} {e : Env} {s : State} {m : MethodId} {args : Array Value} {below : List Frame} {meth : Method} {c : Code} {D : va_G} {tc : Nat → ClassId} {ad : Nat → Nat}  {K : TM → Prop} (E : Ev p s m args meth c D tc ad RX13 cX13_readCanal 2) (hr : meth.sig.returnType = none) : ∀ (n : Nat)  (M : TM) , f_X13_readCanal_L83  K n  M → Wa p l e (rmD 6) s m args below meth c 0 0 (MQ below (va_Qv K (EndW D tc ad) (A0 ad s.heap.size)) args s 0 0 (A0 ad s.heap.size)) D tc ad 2 M 83 [(0, .ref (ad 699))] [] := by
  intro n
  induction n with
  | zero => intro  M  h; exact h.elim
  | succ n ih =>
    intro  M  h
    unfold f_X13_readCanal_L83 at h
    refine ra_aload_n E dX13_readCanal_83 rfl 0 rfl ?_
    refine ra_ldcSw E sr_X13_375 dX13_readCanal_84 ?_
    refine ra_callIV (rest := []) E (c_X13_isWord _ (Nat.le_of_ble_eq_true rfl) _ _ h) lq_13 cv_X13_isWord ml_X13_342 (by decide) (lmM (by decide)) (fun R => ⟨_, cel_699 tc ad R⟩) rfl rfl rfl (Nat.le_of_ble_eq_true rfl) ⟨Nat.le_of_ble_eq_true rfl, Nat.le_of_ble_eq_true rfl⟩ ⟨Nat.zero_le _, Nat.zero_le _⟩ dX13_readCanal_87 (fun r26 M25 h => ?_)
    obtain ⟨b27, h⟩ := h
    refine ra_if_eq (tgt := 100) E dX13_readCanal_90 (by decide) (fun q28 => ?_) (fun q28 => ?_)
    · replace h := h.1 q28
      obtain ⟨n32, h⟩ := h
      exact ra_sub (L' := [(0, _)]) [0] rfl (l_X13_readCanal_L100 E hr n32 _ h)
    · replace h := h.2 q28
      refine ra_aload_n E dX13_readCanal_93 rfl 0 rfl ?_
      refine ra_callVV (rest := []) E (c_X13_readBarge _ _ h) lq_13 cv_X13_readBarge ml_X13_386 (by decide) (lmM (by decide)) (fun R => ⟨_, cel_699 tc ad R⟩) rfl rfl rfl (Nat.le_of_ble_eq_true rfl) ⟨Nat.le_of_ble_eq_true rfl, Nat.le_of_ble_eq_true rfl⟩ ⟨Nat.zero_le _, Nat.zero_le _⟩ dX13_readCanal_94 (fun M33 h => ?_)
      refine ra_goto (tgt := 83) E dX13_readCanal_97 (by decide) ?_
      exact ra_sub (L' := [(0, _)]) [0] rfl (ih _ h)
def f_X13_readCanal_L35  (K : TM → Prop) : Nat → TM → Prop
  | 0, _ => False
  | n + 1, M => f_X13_isWord 10 M (fun r11 M10 => ((¬ r11 = 0 → f_X13_isWord 10 M10 (fun r15 M14 => ((r15 = 0 → f_X13_readSection (25 : Int32) M14 (fun M18 => f_X13_readCanal_L35 K n M18)) ∧ (¬ r15 = 0 → f_X13_readSection (10 : Int32) M14 (fun M19 => f_X13_readCanal_L35 K n M19))))) ∧ (r11 = 0 → f_X13_isWord 11 M10 (fun r21 M20 => ((r21 = 0 → f_X13_readBarge M20 (fun M24 => ∃ n, f_X13_readCanal_L83 K n M24)) ∧ (¬ r21 = 0 → f_X13_isWord 10 M20 (fun r36 M35 => ((r36 = 0 → f_X13_readSection (25 : Int32) M35 (fun M39 => f_X13_readCanal_L35 K n M39)) ∧ (¬ r36 = 0 → f_X13_readSection (10 : Int32) M35 (fun M40 => f_X13_readCanal_L35 K n M40))))))))))
set_option maxRecDepth 100000 in
set_option maxHeartbeats 4000000 in
theorem l_X13_readCanal_L35 {p : Program} {l : Launch} {e : Env} {s : State} {m : MethodId} {args : Array Value} {below : List Frame} {meth : Method} {c : Code} {D : va_G} {tc : Nat → ClassId} {ad : Nat → Nat}  {K : TM → Prop} (E : Ev p s m args meth c D tc ad RX13 cX13_readCanal 2) (hr : meth.sig.returnType = none) : ∀ (n : Nat)  (M : TM) , f_X13_readCanal_L35  K n  M → Wa p l e (rmD 6) s m args below meth c 0 0 (MQ below (va_Qv K (EndW D tc ad) (A0 ad s.heap.size)) args s 0 0 (A0 ad s.heap.size)) D tc ad 2 M 35 [(0, .ref (ad 699))] [] := by
  intro n
  induction n with
  | zero => intro  M  h; exact h.elim
  | succ n ih =>
    intro  M  h
    unfold f_X13_readCanal_L35 at h
    refine ra_aload_n E dX13_readCanal_35 rfl 0 rfl ?_
    refine ra_ldcSw E sr_X13_379 dX13_readCanal_36 ?_
    refine ra_callIV (rest := []) E (c_X13_isWord _ (Nat.le_of_ble_eq_true rfl) _ _ h) lq_13 cv_X13_isWord ml_X13_342 (by decide) (lmM (by decide)) (fun R => ⟨_, cel_699 tc ad R⟩) rfl rfl rfl (Nat.le_of_ble_eq_true rfl) ⟨Nat.le_of_ble_eq_true rfl, Nat.le_of_ble_eq_true rfl⟩ ⟨Nat.zero_le _, Nat.zero_le _⟩ dX13_readCanal_39 (fun r11 M10 h => ?_)
    obtain ⟨b12, h⟩ := h
    refine ra_if_ne (tgt := 55) E dX13_readCanal_42 (by decide) (fun q13 => ?_) (fun q13 => ?_)
    · replace h := h.1 q13
      refine ra_aload_n E dX13_readCanal_55 rfl 0 rfl ?_
      refine ra_aload_n E dX13_readCanal_56 rfl 0 rfl ?_
      refine ra_ldcSw E sr_X13_379 dX13_readCanal_57 ?_
      refine ra_callIV (rest := [_]) E (c_X13_isWord _ (Nat.le_of_ble_eq_true rfl) _ _ h) lq_13 cv_X13_isWord ml_X13_342 (by decide) (lmM (by decide)) (fun R => ⟨_, cel_699 tc ad R⟩) rfl rfl rfl (Nat.le_of_ble_eq_true rfl) ⟨Nat.le_of_ble_eq_true rfl, Nat.le_of_ble_eq_true rfl⟩ ⟨Nat.zero_le _, Nat.zero_le _⟩ dX13_readCanal_60 (fun r15 M14 h => ?_)
      obtain ⟨b16, h⟩ := h
      refine ra_if_eq (tgt := 71) E dX13_readCanal_63 (by decide) (fun q17 => ?_) (fun q17 => ?_)
      · replace h := h.1 q17
        refine ra_bipush E dX13_readCanal_71 kb_25 ?_
        refine ra_callVV (rest := []) E (c_X13_readSection _ _ _ h) lq_13 cv_X13_readSection ml_X13_383 (by decide) (lmM (by decide)) (fun R => ⟨_, cel_699 tc ad R⟩) rfl rfl rfl (Nat.le_of_ble_eq_true rfl) ⟨Nat.le_of_ble_eq_true rfl, Nat.le_of_ble_eq_true rfl⟩ ⟨Nat.zero_le _, Nat.zero_le _⟩ dX13_readCanal_73 (fun M18 h => ?_)
        refine ra_goto (tgt := 35) E dX13_readCanal_76 (by decide) ?_
        exact ra_sub (L' := [(0, _)]) [0] rfl (ih _ h)
      · replace h := h.2 q17
        refine ra_bipush E dX13_readCanal_66 kb_10 ?_
        refine ra_goto (tgt := 73) E dX13_readCanal_68 (by decide) ?_
        refine ra_callVV (rest := []) E (c_X13_readSection _ _ _ h) lq_13 cv_X13_readSection ml_X13_383 (by decide) (lmM (by decide)) (fun R => ⟨_, cel_699 tc ad R⟩) rfl rfl rfl (Nat.le_of_ble_eq_true rfl) ⟨Nat.le_of_ble_eq_true rfl, Nat.le_of_ble_eq_true rfl⟩ ⟨Nat.zero_le _, Nat.zero_le _⟩ dX13_readCanal_73 (fun M19 h => ?_)
        refine ra_goto (tgt := 35) E dX13_readCanal_76 (by decide) ?_
        exact ra_sub (L' := [(0, _)]) [0] rfl (ih _ h)
    · replace h := h.2 q13
      refine ra_aload_n E dX13_readCanal_45 rfl 0 rfl ?_
      refine ra_ldcSw E sr_X13_381 dX13_readCanal_46 ?_
      refine ra_callIV (rest := []) E (c_X13_isWord _ (Nat.le_of_ble_eq_true rfl) _ _ h) lq_13 cv_X13_isWord ml_X13_342 (by decide) (lmM (by decide)) (fun R => ⟨_, cel_699 tc ad R⟩) rfl rfl rfl (Nat.le_of_ble_eq_true rfl) ⟨Nat.le_of_ble_eq_true rfl, Nat.le_of_ble_eq_true rfl⟩ ⟨Nat.zero_le _, Nat.zero_le _⟩ dX13_readCanal_49 (fun r21 M20 h => ?_)
      obtain ⟨b22, h⟩ := h
      refine ra_if_eq (tgt := 79) E dX13_readCanal_52 (by decide) (fun q23 => ?_) (fun q23 => ?_)
      · replace h := h.1 q23
        refine ra_aload_n E dX13_readCanal_79 rfl 0 rfl ?_
        refine ra_callVV (rest := []) E (c_X13_readBarge _ _ h) lq_13 cv_X13_readBarge ml_X13_386 (by decide) (lmM (by decide)) (fun R => ⟨_, cel_699 tc ad R⟩) rfl rfl rfl (Nat.le_of_ble_eq_true rfl) ⟨Nat.le_of_ble_eq_true rfl, Nat.le_of_ble_eq_true rfl⟩ ⟨Nat.zero_le _, Nat.zero_le _⟩ dX13_readCanal_80 (fun M24 h => ?_)
        obtain ⟨n34, h⟩ := h
        exact ra_sub (L' := [(0, _)]) [0] rfl (l_X13_readCanal_L83 E hr n34 _ h)
      · replace h := h.2 q23
        refine ra_aload_n E dX13_readCanal_55 rfl 0 rfl ?_
        refine ra_aload_n E dX13_readCanal_56 rfl 0 rfl ?_
        refine ra_ldcSw E sr_X13_379 dX13_readCanal_57 ?_
        refine ra_callIV (rest := [_]) E (c_X13_isWord _ (Nat.le_of_ble_eq_true rfl) _ _ h) lq_13 cv_X13_isWord ml_X13_342 (by decide) (lmM (by decide)) (fun R => ⟨_, cel_699 tc ad R⟩) rfl rfl rfl (Nat.le_of_ble_eq_true rfl) ⟨Nat.le_of_ble_eq_true rfl, Nat.le_of_ble_eq_true rfl⟩ ⟨Nat.zero_le _, Nat.zero_le _⟩ dX13_readCanal_60 (fun r36 M35 h => ?_)
        obtain ⟨b37, h⟩ := h
        refine ra_if_eq (tgt := 71) E dX13_readCanal_63 (by decide) (fun q38 => ?_) (fun q38 => ?_)
        · replace h := h.1 q38
          refine ra_bipush E dX13_readCanal_71 kb_25 ?_
          refine ra_callVV (rest := []) E (c_X13_readSection _ _ _ h) lq_13 cv_X13_readSection ml_X13_383 (by decide) (lmM (by decide)) (fun R => ⟨_, cel_699 tc ad R⟩) rfl rfl rfl (Nat.le_of_ble_eq_true rfl) ⟨Nat.le_of_ble_eq_true rfl, Nat.le_of_ble_eq_true rfl⟩ ⟨Nat.zero_le _, Nat.zero_le _⟩ dX13_readCanal_73 (fun M39 h => ?_)
          refine ra_goto (tgt := 35) E dX13_readCanal_76 (by decide) ?_
          exact ra_sub (L' := [(0, _)]) [0] rfl (ih _ h)
        · replace h := h.2 q38
          refine ra_bipush E dX13_readCanal_66 kb_10 ?_
          refine ra_goto (tgt := 73) E dX13_readCanal_68 (by decide) ?_
          refine ra_callVV (rest := []) E (c_X13_readSection _ _ _ h) lq_13 cv_X13_readSection ml_X13_383 (by decide) (lmM (by decide)) (fun R => ⟨_, cel_699 tc ad R⟩) rfl rfl rfl (Nat.le_of_ble_eq_true rfl) ⟨Nat.le_of_ble_eq_true rfl, Nat.le_of_ble_eq_true rfl⟩ ⟨Nat.zero_le _, Nat.zero_le _⟩ dX13_readCanal_73 (fun M40 h => ?_)
          refine ra_goto (tgt := 35) E dX13_readCanal_76 (by decide) ?_
          exact ra_sub (L' := [(0, _)]) [0] rfl (ih _ h)
def f_X13_readCanal  (M : TM) (K : TM → Prop) : Prop := f_X13_isWord 9 M (fun r2 M1 => f_X13_check r2 (1 : Int32) M1 (fun M4 => f_X13_advance M4 (fun M5 => f_X13_readNumber (3 : Int32) (16 : Int32) M5 (fun r7 M6 => f_X13_expect (59 : Int32) M6 (fun M8 => f_X13_begin r7 M8 (fun M9 => ∃ n, f_X13_readCanal_L35 K n M9))))))
set_option maxRecDepth 100000 in
set_option maxHeartbeats 4000000 in
theorem c_X13_readCanal {ad : Nat → Nat}  (M : TM) (K : TM → Prop) (h : f_X13_readCanal  M K) : MV yX13_readCanal cX13_readCanal 2 6 ad [.ref (ad 699)] M K := by
  refine MV_of RX13 rfl (by decide +kernel) (Nat.le_of_ble_eq_true rfl) (fun p l e s m below meth c D tc E hr => ?_)
  unfold f_X13_readCanal at h
  refine ra_aload_n E dX13_readCanal_0 rfl 0 rfl ?_
  refine ra_aload_n E dX13_readCanal_1 rfl 0 rfl ?_
  refine ra_ldcSw E sr_X13_377 dX13_readCanal_2 ?_
  refine ra_callIV (rest := [_]) E (c_X13_isWord _ (Nat.le_of_ble_eq_true rfl) _ _ h) lq_13 cv_X13_isWord ml_X13_342 (by decide) (lmM (by decide)) (fun R => ⟨_, cel_699 tc ad R⟩) rfl rfl rfl (Nat.le_of_ble_eq_true rfl) ⟨Nat.le_of_ble_eq_true rfl, Nat.le_of_ble_eq_true rfl⟩ ⟨Nat.zero_le _, Nat.zero_le _⟩ dX13_readCanal_5 (fun r2 M1 h => ?_)
  obtain ⟨b3, h⟩ := h
  refine ra_iconst E dX13_readCanal_8 ki_1 ?_
  refine ra_callVV (rest := []) E (c_X13_check _ _ _ _ h) lq_13 cv_X13_check ml_X13_349 (by decide) (lmM (by decide)) (fun R => ⟨_, cel_699 tc ad R⟩) rfl rfl rfl (Nat.le_of_ble_eq_true rfl) ⟨Nat.le_of_ble_eq_true rfl, Nat.le_of_ble_eq_true rfl⟩ ⟨Nat.zero_le _, Nat.zero_le _⟩ dX13_readCanal_9 (fun M4 h => ?_)
  refine ra_aload_n E dX13_readCanal_12 rfl 0 rfl ?_
  refine ra_callVV (rest := []) E (c_X13_advance _ _ h) lq_13 cv_X13_advance ml_X13_353 (by decide) (lmM (by decide)) (fun R => ⟨_, cel_699 tc ad R⟩) rfl rfl rfl (Nat.le_of_ble_eq_true rfl) ⟨Nat.le_of_ble_eq_true rfl, Nat.le_of_ble_eq_true rfl⟩ ⟨Nat.zero_le _, Nat.zero_le _⟩ dX13_readCanal_13 (fun M5 h => ?_)
  refine ra_aload_n E dX13_readCanal_16 rfl 0 rfl ?_
  refine ra_iconst E dX13_readCanal_17 ki_3 ?_
  refine ra_bipush E dX13_readCanal_18 kb_16 ?_
  refine ra_callIV (rest := []) E (c_X13_readNumber _ _ _ _ h) lq_13 cv_X13_readNumber ml_X13_369 (by decide) (lmM (by decide)) (fun R => ⟨_, cel_699 tc ad R⟩) rfl rfl rfl (Nat.le_of_ble_eq_true rfl) ⟨Nat.le_of_ble_eq_true rfl, Nat.le_of_ble_eq_true rfl⟩ ⟨Nat.zero_le _, Nat.zero_le _⟩ dX13_readCanal_20 (fun r7 M6 h => ?_)
  refine ra_istore_n (L' := [(1, _), (0, _)]) E dX13_readCanal_23 rfl (by decide) rfl ?_
  refine ra_aload_n E dX13_readCanal_24 rfl 1 rfl ?_
  refine ra_bipush E dX13_readCanal_25 kb_59 ?_
  refine ra_callVV (rest := []) E (c_X13_expect _ _ _ h) lq_13 cv_X13_expect ml_X13_372 (by decide) (lmM (by decide)) (fun R => ⟨_, cel_699 tc ad R⟩) rfl rfl rfl (Nat.le_of_ble_eq_true rfl) ⟨Nat.le_of_ble_eq_true rfl, Nat.le_of_ble_eq_true rfl⟩ ⟨Nat.zero_le _, Nat.zero_le _⟩ dX13_readCanal_27 (fun M8 h => ?_)
  refine ra_aload_n E dX13_readCanal_30 rfl 1 rfl ?_
  refine ra_iload_n E dX13_readCanal_31 rfl 0 rfl ?_
  refine ra_callVV (rest := []) E (c_X13_begin _ _ _ h) lq_13 cv_X13_begin ml_X13_68 (by decide) (lmM (by decide)) (fun R => ⟨_, cel_699 tc ad R⟩) rfl rfl rfl (Nat.le_of_ble_eq_true rfl) ⟨Nat.le_of_ble_eq_true rfl, Nat.le_of_ble_eq_true rfl⟩ ⟨Nat.zero_le _, Nat.zero_le _⟩ dX13_readCanal_32 (fun M9 h => ?_)
  obtain ⟨n41, h⟩ := h
  exact ra_sub (L' := [(0, _)]) [1] rfl (l_X13_readCanal_L35 E hr n41 _ h)
def f_X13_loadCanal (p1 : Int32) (M : TM) (K : Int32 → TM → Prop) : Prop := f_X13_isLength p1 M (fun r2 M1 => f_X13_lacks r2 M1 (fun r5 M4 => ((r5 = 0 → f_X13_startText p1 M4 (fun M8 => ∀ M9, M9 = u2 M8 699 6 (1 : Int32) → f_X13_readCanal M9 (fun M10 => ∀ M11, M11 = u2 M10 699 6 (0 : Int32) → f_X13_isFaulty M11 (fun r13 M12 => ((r13 = 0 → f_X13_copy 701 377 (0 : Int32) 700 377 (0 : Int32) M12 (fun M16 => ∀ M17, M17 = u2 M16 699 7 (0 : Int32) → ∀ M18, M18 = u2 M17 699 11 (0 : Int32) → vp_in (M18 699 6) 2 ∧ vp_in (2 : Int32) 377 ∧ K (M18 (700 + (M18 699 6).toNatClampNeg) (2 : Int32).toNatClampNeg) M18)) ∧ (¬ r13 = 0 → K (-1 : Int32) M12)))))) ∧ (¬ r5 = 0 → K (0 : Int32) M4))))
set_option maxRecDepth 100000 in
set_option maxHeartbeats 4000000 in
theorem c_X13_loadCanal {ad : Nat → Nat} (p1 : Int32) (M : TM) (K : Int32 → TM → Prop) (h : f_X13_loadCanal p1 M K) : MI yX13_loadCanal cX13_loadCanal 2 (some .int) 7 ad [.ref (ad 699), .int p1] M K := by
  refine MI_of RX13 rfl (by decide +kernel) (Nat.le_of_ble_eq_true rfl) (fun p l e s m below meth c D tc E hr => ?_)
  unfold f_X13_loadCanal at h
  refine ra_aload_n E dX13_loadCanal_0 rfl 0 rfl ?_
  refine ra_aload_n E dX13_loadCanal_1 rfl 0 rfl ?_
  refine ra_iload_n E dX13_loadCanal_2 rfl 1 rfl ?_
  refine ra_callIV (rest := [_]) E (c_X13_isLength _ _ _ h) lq_13 cv_X13_isLength ml_X13_392 (by decide) (lmM (by decide)) (fun R => ⟨_, cel_699 tc ad R⟩) rfl rfl rfl (Nat.le_of_ble_eq_true rfl) ⟨Nat.le_of_ble_eq_true rfl, Nat.le_of_ble_eq_true rfl⟩ ⟨Nat.zero_le _, Nat.zero_le _⟩ dX13_loadCanal_3 (fun r2 M1 h => ?_)
  obtain ⟨b3, h⟩ := h
  refine ra_callIV (rest := []) E (c_X13_lacks _ _ _ h) lq_13 cv_X13_lacks ml_X13_82 (by decide) (lmM (by decide)) (fun R => ⟨_, cel_699 tc ad R⟩) rfl rfl rfl (Nat.le_of_ble_eq_true rfl) ⟨Nat.le_of_ble_eq_true rfl, Nat.le_of_ble_eq_true rfl⟩ ⟨Nat.zero_le _, Nat.zero_le _⟩ dX13_loadCanal_6 (fun r5 M4 h => ?_)
  obtain ⟨b6, h⟩ := h
  refine ra_if_eq (tgt := 14) E dX13_loadCanal_9 (by decide) (fun q7 => ?_) (fun q7 => ?_)
  · replace h := h.1 q7
    refine ra_aload_n E dX13_loadCanal_14 rfl 0 rfl ?_
    refine ra_iload_n E dX13_loadCanal_15 rfl 1 rfl ?_
    refine ra_callVV (rest := []) E (c_X13_startText _ _ _ h) lq_13 cv_X13_startText ml_X13_395 (by decide) (lmM (by decide)) (fun R => ⟨_, cel_699 tc ad R⟩) rfl rfl rfl (Nat.le_of_ble_eq_true rfl) ⟨Nat.le_of_ble_eq_true rfl, Nat.le_of_ble_eq_true rfl⟩ ⟨Nat.zero_le _, Nat.zero_le _⟩ dX13_loadCanal_16 (fun M8 h => ?_)
    refine ra_aload_n E dX13_loadCanal_19 rfl 0 rfl ?_
    refine ra_aload_n E dX13_loadCanal_20 rfl 0 rfl ?_
    refine gf_X13_1 E lm13 fl_X13_13 dX13_loadCanal_21 ?_
    refine pf_X13_6 E lm13 (1 : Int32) rfl fl_X13_28 dX13_loadCanal_24 ?_
    replace h := h _ rfl
    refine ra_aload_n E dX13_loadCanal_27 rfl 0 rfl ?_
    refine ra_callVV (rest := []) E (c_X13_readCanal _ _ h) lq_13 cv_X13_readCanal ml_X13_398 (by decide) (lmM (by decide)) (fun R => ⟨_, cel_699 tc ad R⟩) rfl rfl rfl (Nat.le_of_ble_eq_true rfl) ⟨Nat.le_of_ble_eq_true rfl, Nat.le_of_ble_eq_true rfl⟩ ⟨Nat.zero_le _, Nat.zero_le _⟩ dX13_loadCanal_28 (fun M10 h => ?_)
    refine ra_aload_n E dX13_loadCanal_31 rfl 0 rfl ?_
    refine ra_aload_n E dX13_loadCanal_32 rfl 0 rfl ?_
    refine gf_X13_0 E lm13 fl_X13_9 dX13_loadCanal_33 ?_
    refine pf_X13_6 E lm13 (0 : Int32) rfl fl_X13_28 dX13_loadCanal_36 ?_
    replace h := h _ rfl
    refine ra_aload_n E dX13_loadCanal_39 rfl 0 rfl ?_
    refine ra_callIV (rest := []) E (c_X13_isFaulty _ _ h) lq_13 cv_X13_isFaulty ml_X13_401 (by decide) (lmM (by decide)) (fun R => ⟨_, cel_699 tc ad R⟩) rfl rfl rfl (Nat.le_of_ble_eq_true rfl) ⟨Nat.le_of_ble_eq_true rfl, Nat.le_of_ble_eq_true rfl⟩ ⟨Nat.zero_le _, Nat.zero_le _⟩ dX13_loadCanal_40 (fun r13 M12 h => ?_)
    obtain ⟨b14, h⟩ := h
    refine ra_if_eq (tgt := 48) E dX13_loadCanal_43 (by decide) (fun q15 => ?_) (fun q15 => ?_)
    · replace h := h.1 q15
      refine ra_aload_n E dX13_loadCanal_48 rfl 0 rfl ?_
      refine gf_X13_1 E lm13 fl_X13_13 dX13_loadCanal_49 ?_
      refine ra_iconst E dX13_loadCanal_52 ki_0 ?_
      refine ra_aload_n E dX13_loadCanal_53 rfl 0 rfl ?_
      refine gf_X13_0 E lm13 fl_X13_9 dX13_loadCanal_54 ?_
      refine ra_iconst E dX13_loadCanal_57 ki_0 ?_
      refine ra_callVS (rest := []) E (c_X13_copy _ _ (⟨(by decide), fun tc ad => (cel_701 tc ad)⟩) _ _ _ (⟨(by decide), fun tc ad => (cel_700 tc ad)⟩) _ _ _ h) lq_13 ct_X13_copy ml_X13_229 (by decide) rfl rfl (Nat.le_of_ble_eq_true rfl) ⟨Nat.le_of_ble_eq_true rfl, Nat.le_of_ble_eq_true rfl⟩ ⟨Nat.zero_le _, Nat.zero_le _⟩ dX13_loadCanal_58 (fun M16 h => ?_)
      refine ra_aload_n E dX13_loadCanal_61 rfl 0 rfl ?_
      refine ra_iconst E dX13_loadCanal_62 ki_0 ?_
      refine pf_X13_7 E lm13 fl_X13_248 dX13_loadCanal_63 ?_
      replace h := h _ rfl
      refine ra_aload_n E dX13_loadCanal_66 rfl 0 rfl ?_
      refine ra_iconst E dX13_loadCanal_67 ki_0 ?_
      refine pf_X13_11 E lm13 fl_X13_295 (by decide) dX13_loadCanal_68 ?_
      replace h := h _ rfl
      refine ra_aload_n E dX13_loadCanal_71 rfl 0 rfl ?_
      obtain ⟨g19, h⟩ := h
      refine gf_X13_6 E lm13 fl_X13_28 dX13_loadCanal_72 ?_
      refine ra_iconst E dX13_loadCanal_75 ki_2 ?_
      obtain ⟨g20, h⟩ := h
      refine ra_iald E (lmM (isRow_of g19).lt) (cel_row tc ad (isRow_of g19)) g20 dX13_loadCanal_76 ?_
      exact ra_iret E hr dX13_loadCanal_77 h
    · replace h := h.2 q15
      refine ra_iconst E dX13_loadCanal_46 ki_m1 ?_
      exact ra_iret E hr dX13_loadCanal_47 h
  · replace h := h.2 q7
    refine ra_iconst E dX13_loadCanal_12 ki_0 ?_
    exact ra_iret E hr dX13_loadCanal_13 h
