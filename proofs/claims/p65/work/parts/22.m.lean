def f_X5_remember_L24 (a1 : Nat) (K : TM → Prop)  (M : TM) : Prop := vp_in (M 25 1) 8 ∧ f_X2_copyFrom (27 + 61 * (M 25 1).toNatClampNeg) a1 M (fun M4 => ∀ M5, M5 = u2 M4 25 1 ((M4 25 1) + (1 : Int32)) → ∀ M6, M6 = u2 M5 25 2 (if (8 : Int32) < ((M5 25 2) + (1 : Int32)) then (8 : Int32) else ((M5 25 2) + (1 : Int32))) → K M6)
set_option maxRecDepth 100000 in
set_option maxHeartbeats 4000000 in
theorem l_X5_remember_L24 {p : Program} {l : Launch} {e : Env} {s : State} {m : MethodId} {args : Array Value} {below : List Frame} {meth : Method} {c : Code} {D : va_G} {tc : Nat → ClassId} {ad : Nat → Nat} (a1 : Nat) (h1 : IsCanal a1) {K : TM → Prop} (E : Ev p s m args meth c D tc ad RX5 cX5_remember 2) (hr : meth.sig.returnType = none) : ∀  (M : TM) , f_X5_remember_L24 a1 K  M → Wa p l e (rmD 3) s m args below meth c 0 0 (MQ below (va_Qv K (EndW D tc ad) (A0 ad s.heap.size)) args s 0 0 (A0 ad s.heap.size)) D tc ad 2 M 24 [(0, .ref (ad 25)), (1, .ref (ad a1))] [] := by
  intro  M  h
  unfold f_X5_remember_L24 at h
  refine ra_aload_n E dX5_remember_24 rfl 0 rfl ?_
  refine gf_X5_0 E fl_X5_11 dX5_remember_25 ?_
  refine ra_aload_n E dX5_remember_28 rfl 0 rfl ?_
  refine gf_X5_1 E fl_X5_17 dX5_remember_29 ?_
  obtain ⟨g3, h⟩ := h
  refine ra_aald E (lm (by decide)) (cel_26 tc ad) rfl g3 dX5_remember_32 ?_
  refine ra_aload_n E dX5_remember_33 rfl 1 rfl ?_
  refine ra_callVV (rest := []) E (c_X2_copyFrom _ (isRing_of g3) _ h1 _ _ h) (lq_X2 _) cv_X2_copyFrom ml_X5_25 (by decide) (lm ((isRing_of g3).add (j := 0) (by decide))) (fun R => ⟨_, cel_canal tc ad (isRing_of g3) R⟩) rfl rfl rfl (Nat.le_of_ble_eq_true rfl) ⟨Nat.le_of_ble_eq_true rfl, Nat.le_of_ble_eq_true rfl⟩ ⟨Nat.zero_le _, Nat.zero_le _⟩ dX5_remember_34 (fun M4 h => ?_)
  refine ra_aload_n E dX5_remember_37 rfl 0 rfl ?_
  refine ra_dup E dX5_remember_38 rfl ?_
  refine gf_X5_1 E fl_X5_17 dX5_remember_39 ?_
  refine ra_iconst E dX5_remember_42 ki_1 ?_
  refine ra_iadd E dX5_remember_43 ?_
  refine pf_X5_1 E fl_X5_17 dX5_remember_44 ?_
  replace h := h _ rfl
  refine ra_aload_n E dX5_remember_47 rfl 0 rfl ?_
  refine ra_aload_n E dX5_remember_48 rfl 0 rfl ?_
  refine gf_X5_2 E fl_X5_21 dX5_remember_49 ?_
  refine ra_iconst E dX5_remember_52 ki_1 ?_
  refine ra_iadd E dX5_remember_53 ?_
  refine ra_aload_n E dX5_remember_54 rfl 0 rfl ?_
  refine gf_X5_0 E fl_X5_11 dX5_remember_55 ?_
  refine ra_alen (n := 8) (v := 8) E (lm (by decide)) (fun R => ⟨_, (cel_26 tc ad) R, rfl⟩) rfl (by decide) dX5_remember_58 ?_
  refine ra_mmin E ml_X5_29 ⟨Nat.le_of_ble_eq_true rfl, Nat.le_of_ble_eq_true rfl⟩ ⟨Nat.zero_le _, Nat.zero_le _⟩ dX5_remember_59 ?_
  refine pf_X5_2 E fl_X5_21 dX5_remember_62 ?_
  replace h := h _ rfl
  exact ra_vret E hr dX5_remember_65 h
def f_X5_remember_L19 (a1 : Nat) (K : TM → Prop)  (M : TM) : Prop := ∀ M2, M2 = u2 M 25 1 (0 : Int32) → f_X5_remember_L24 a1 K M2
set_option maxRecDepth 100000 in
set_option maxHeartbeats 4000000 in
theorem l_X5_remember_L19 {p : Program} {l : Launch} {e : Env} {s : State} {m : MethodId} {args : Array Value} {below : List Frame} {meth : Method} {c : Code} {D : va_G} {tc : Nat → ClassId} {ad : Nat → Nat} (a1 : Nat) (h1 : IsCanal a1) {K : TM → Prop} (E : Ev p s m args meth c D tc ad RX5 cX5_remember 2) (hr : meth.sig.returnType = none) : ∀  (M : TM) , f_X5_remember_L19 a1 K  M → Wa p l e (rmD 3) s m args below meth c 0 0 (MQ below (va_Qv K (EndW D tc ad) (A0 ad s.heap.size)) args s 0 0 (A0 ad s.heap.size)) D tc ad 2 M 19 [(0, .ref (ad 25)), (1, .ref (ad a1))] [] := by
  intro  M  h
  unfold f_X5_remember_L19 at h
  refine ra_aload_n E dX5_remember_19 rfl 0 rfl ?_
  refine ra_iconst E dX5_remember_20 ki_0 ?_
  refine pf_X5_1 E fl_X5_17 dX5_remember_21 ?_
  replace h := h _ rfl
  exact ra_sub (L' := [(0, _), (1, _)]) [0, 1] rfl (l_X5_remember_L24 a1 h1 E hr  _ h)
def f_X5_remember (a1 : Nat) (M : TM) (K : TM → Prop) : Prop := (((M 25 1) < 0 → f_X5_remember_L19 a1 K M) ∧ (¬ (M 25 1) < 0 → (((M 25 1) < (8 : Int32) → f_X5_remember_L24 a1 K M) ∧ (¬ (M 25 1) < (8 : Int32) → f_X5_remember_L19 a1 K M))))
set_option maxRecDepth 100000 in
set_option maxHeartbeats 4000000 in
theorem c_X5_remember {ad : Nat → Nat} (a1 : Nat) (h1 : IsCanal a1) (M : TM) (K : TM → Prop) (h : f_X5_remember a1 M K) : MV yX5_remember cX5_remember 2 3 ad [.ref (ad 25), .ref (ad a1)] M K := by
  refine MV_of RX5 rfl (by decide +kernel) (Nat.le_of_ble_eq_true rfl) (fun p l e s m below meth c D tc E hr => ?_)
  unfold f_X5_remember at h
  refine ra_aload_n E dX5_remember_0 rfl 0 rfl ?_
  refine gf_X5_1 E fl_X5_17 dX5_remember_1 ?_
  refine ra_if_lt (tgt := 19) E dX5_remember_4 (by decide) (fun q1 => ?_) (fun q1 => ?_)
  · replace h := h.1 q1
    exact ra_sub (L' := [(0, _), (1, _)]) [0, 1] rfl (l_X5_remember_L19 a1 h1 E hr  _ h)
  · replace h := h.2 q1
    refine ra_aload_n E dX5_remember_7 rfl 0 rfl ?_
    refine gf_X5_1 E fl_X5_17 dX5_remember_8 ?_
    refine ra_aload_n E dX5_remember_11 rfl 0 rfl ?_
    refine gf_X5_0 E fl_X5_11 dX5_remember_12 ?_
    refine ra_alen (n := 8) (v := 8) E (lm (by decide)) (fun R => ⟨_, (cel_26 tc ad) R, rfl⟩) rfl (by decide) dX5_remember_15 ?_
    refine ra_icmp_lt (tgt := 24) E dX5_remember_16 (by decide) (fun q7 => ?_) (fun q7 => ?_)
    · replace h := h.1 q7
      exact ra_sub (L' := [(0, _), (1, _)]) [0, 1] rfl (l_X5_remember_L24 a1 h1 E hr  _ h)
    · replace h := h.2 q7
      exact ra_sub (L' := [(0, _), (1, _)]) [0, 1] rfl (l_X5_remember_L19 a1 h1 E hr  _ h)
def f_X5_takeBack_L46 (a1 : Nat) (K : TM → Prop) (z0 : Int32) (M : TM) : Prop := ∀ M3, M3 = u2 M 25 1 z0 → vp_in (M3 25 1) 8 ∧ f_X2_copyFrom a1 (27 + 61 * (M3 25 1).toNatClampNeg) M3 (fun M5 => ∀ M6, M6 = u2 M5 25 2 ((M5 25 2) - (1 : Int32)) → K M6)
set_option maxRecDepth 100000 in
set_option maxHeartbeats 4000000 in
theorem l_X5_takeBack_L46 {p : Program} {l : Launch} {e : Env} {s : State} {m : MethodId} {args : Array Value} {below : List Frame} {meth : Method} {c : Code} {D : va_G} {tc : Nat → ClassId} {ad : Nat → Nat} (a1 : Nat) (h1 : IsCanal a1) {K : TM → Prop} (E : Ev p s m args meth c D tc ad RX5 cX5_takeBack 2) (hr : meth.sig.returnType = none) : ∀ (z0 : Int32) (M : TM) , f_X5_takeBack_L46 a1 K z0 M → Wa p l e (rmD 3) s m args below meth c 0 0 (MQ below (va_Qv K (EndW D tc ad) (A0 ad s.heap.size)) args s 0 0 (A0 ad s.heap.size)) D tc ad 2 M 46 [(0, .ref (ad 25)), (1, .ref (ad a1))] [.int z0, .ref (ad 25)] := by
  intro z0 M  h
  unfold f_X5_takeBack_L46 at h
  refine pf_X5_1 E fl_X5_17 dX5_takeBack_46 ?_
  replace h := h _ rfl
  refine ra_aload_n E dX5_takeBack_49 rfl 1 rfl ?_
  refine ra_aload_n E dX5_takeBack_50 rfl 0 rfl ?_
  refine gf_X5_0 E fl_X5_11 dX5_takeBack_51 ?_
  refine ra_aload_n E dX5_takeBack_54 rfl 0 rfl ?_
  refine gf_X5_1 E fl_X5_17 dX5_takeBack_55 ?_
  obtain ⟨g4, h⟩ := h
  refine ra_aald E (lm (by decide)) (cel_26 tc ad) rfl g4 dX5_takeBack_58 ?_
  refine ra_callVV (rest := []) E (c_X2_copyFrom _ h1 _ (isRing_of g4) _ _ h) (lq_X2 _) cv_X2_copyFrom ml_X5_25 (by decide) (lm (h1.add (j := 0) (by decide))) (fun R => ⟨_, cel_canal tc ad h1 R⟩) rfl rfl rfl (Nat.le_of_ble_eq_true rfl) ⟨Nat.le_of_ble_eq_true rfl, Nat.le_of_ble_eq_true rfl⟩ ⟨Nat.zero_le _, Nat.zero_le _⟩ dX5_takeBack_59 (fun M5 h => ?_)
  refine ra_aload_n E dX5_takeBack_62 rfl 0 rfl ?_
  refine ra_dup E dX5_takeBack_63 rfl ?_
  refine gf_X5_2 E fl_X5_21 dX5_takeBack_64 ?_
  refine ra_iconst E dX5_takeBack_67 ki_1 ?_
  refine ra_isub E dX5_takeBack_68 ?_
  refine pf_X5_2 E fl_X5_21 dX5_takeBack_69 ?_
  replace h := h _ rfl
  exact ra_vret E hr dX5_takeBack_72 h
def f_X5_takeBack_L30 (a1 : Nat) (K : TM → Prop)  (M : TM) : Prop := f_X5_takeBack_L46 a1 K ((8 : Int32) - (1 : Int32)) M
set_option maxRecDepth 100000 in
set_option maxHeartbeats 4000000 in
theorem l_X5_takeBack_L30 {p : Program} {l : Launch} {e : Env} {s : State} {m : MethodId} {args : Array Value} {below : List Frame} {meth : Method} {c : Code} {D : va_G} {tc : Nat → ClassId} {ad : Nat → Nat} (a1 : Nat) (h1 : IsCanal a1) {K : TM → Prop} (E : Ev p s m args meth c D tc ad RX5 cX5_takeBack 2) (hr : meth.sig.returnType = none) : ∀  (M : TM) , f_X5_takeBack_L30 a1 K  M → Wa p l e (rmD 3) s m args below meth c 0 0 (MQ below (va_Qv K (EndW D tc ad) (A0 ad s.heap.size)) args s 0 0 (A0 ad s.heap.size)) D tc ad 2 M 30 [(0, .ref (ad 25)), (1, .ref (ad a1))] [.ref (ad 25)] := by
  intro  M  h
  unfold f_X5_takeBack_L30 at h
  refine ra_aload_n E dX5_takeBack_30 rfl 0 rfl ?_
  refine gf_X5_0 E fl_X5_11 dX5_takeBack_31 ?_
  refine ra_alen (n := 8) (v := 8) E (lm (by decide)) (fun R => ⟨_, (cel_26 tc ad) R, rfl⟩) rfl (by decide) dX5_takeBack_34 ?_
  refine ra_iconst E dX5_takeBack_35 ki_1 ?_
  refine ra_isub E dX5_takeBack_36 ?_
  refine ra_goto (tgt := 46) E dX5_takeBack_37 (by decide) ?_
  exact ra_sub (L' := [(0, _), (1, _)]) [0, 1] rfl (l_X5_takeBack_L46 a1 h1 E hr _ _ h)
def f_X5_takeBack (a1 : Nat) (M : TM) (K : TM → Prop) : Prop := (((1 : Int32) ≤ (M 25 2) → (((M 25 1) < (1 : Int32) → f_X5_takeBack_L30 a1 K M) ∧ (¬ (M 25 1) < (1 : Int32) → (((M 25 1) ≤ (8 : Int32) → f_X5_takeBack_L46 a1 K ((M 25 1) - (1 : Int32)) M) ∧ (¬ (M 25 1) ≤ (8 : Int32) → f_X5_takeBack_L30 a1 K M))))) ∧ (¬ (1 : Int32) ≤ (M 25 2) → K M))
set_option maxRecDepth 100000 in
set_option maxHeartbeats 4000000 in
theorem c_X5_takeBack {ad : Nat → Nat} (a1 : Nat) (h1 : IsCanal a1) (M : TM) (K : TM → Prop) (h : f_X5_takeBack a1 M K) : MV yX5_takeBack cX5_takeBack 2 3 ad [.ref (ad 25), .ref (ad a1)] M K := by
  refine MV_of RX5 rfl (by decide +kernel) (Nat.le_of_ble_eq_true rfl) (fun p l e s m below meth c D tc E hr => ?_)
  unfold f_X5_takeBack at h
  refine ra_aload_n E dX5_takeBack_0 rfl 0 rfl ?_
  refine gf_X5_2 E fl_X5_21 dX5_takeBack_1 ?_
  refine ra_iconst E dX5_takeBack_4 ki_1 ?_
  refine ra_icmp_ge (tgt := 9) E dX5_takeBack_5 (by decide) (fun q1 => ?_) (fun q1 => ?_)
  · replace h := h.1 q1
    refine ra_aload_n E dX5_takeBack_9 rfl 0 rfl ?_
    refine ra_aload_n E dX5_takeBack_10 rfl 0 rfl ?_
    refine gf_X5_1 E fl_X5_17 dX5_takeBack_11 ?_
    refine ra_iconst E dX5_takeBack_14 ki_1 ?_
    refine ra_icmp_lt (tgt := 30) E dX5_takeBack_15 (by decide) (fun q2 => ?_) (fun q2 => ?_)
    · replace h := h.1 q2
      exact ra_sub (L' := [(0, _), (1, _)]) [0, 1] rfl (l_X5_takeBack_L30 a1 h1 E hr  _ h)
    · replace h := h.2 q2
      refine ra_aload_n E dX5_takeBack_18 rfl 0 rfl ?_
      refine gf_X5_1 E fl_X5_17 dX5_takeBack_19 ?_
      refine ra_aload_n E dX5_takeBack_22 rfl 0 rfl ?_
      refine gf_X5_0 E fl_X5_11 dX5_takeBack_23 ?_
      refine ra_alen (n := 8) (v := 8) E (lm (by decide)) (fun R => ⟨_, (cel_26 tc ad) R, rfl⟩) rfl (by decide) dX5_takeBack_26 ?_
      refine ra_icmp_le (tgt := 40) E dX5_takeBack_27 (by decide) (fun q7 => ?_) (fun q7 => ?_)
      · replace h := h.1 q7
        refine ra_aload_n E dX5_takeBack_40 rfl 0 rfl ?_
        refine gf_X5_1 E fl_X5_17 dX5_takeBack_41 ?_
        refine ra_iconst E dX5_takeBack_44 ki_1 ?_
        refine ra_isub E dX5_takeBack_45 ?_
        exact ra_sub (L' := [(0, _), (1, _)]) [0, 1] rfl (l_X5_takeBack_L46 a1 h1 E hr _ _ h)
      · replace h := h.2 q7
        exact ra_sub (L' := [(0, _), (1, _)]) [0, 1] rfl (l_X5_takeBack_L30 a1 h1 E hr  _ h)
  · replace h := h.2 q1
    exact ra_vret E hr dX5_takeBack_8 h
def f_X6_reset (a0 : Nat) (p1 : Int32) (p2 : Int32) (p3 : Int32) (p4 : Int32) (M : TM) (K : TM → Prop) : Prop := ∀ M1, M1 = u2 M a0 0 p1 → ∀ M2, M2 = u2 M1 a0 1 p2 → ∀ M3, M3 = u2 M2 a0 2 p3 → ∀ M4, M4 = u2 M3 a0 4 p4 → f_X6_open a0 M4 (fun M5 => K M5)
set_option maxRecDepth 100000 in
set_option maxHeartbeats 4000000 in
theorem c_X6_reset {ad : Nat → Nat} (a0 : Nat) (h0 : IsOrder a0) (p1 : Int32) (p2 : Int32) (p3 : Int32) (p4 : Int32) (M : TM) (K : TM → Prop) (h : f_X6_reset a0 p1 p2 p3 p4 M K) : MV yX6_reset cX6_reset 5 1 ad [.ref (ad a0), .int p1, .int p2, .int p3, .int p4] M K := by
  refine MV_of RX6 rfl (by decide +kernel) (Nat.le_of_ble_eq_true rfl) (fun p l e s m below meth c D tc E hr => ?_)
  unfold f_X6_reset at h
  refine ra_aload_n E dX6_reset_0 rfl 0 rfl ?_
  refine ra_iload_n E dX6_reset_1 rfl 1 rfl ?_
  refine pf_X6_0 E h0 fl_X6_9 dX6_reset_2 ?_
  replace h := h _ rfl
  refine ra_aload_n E dX6_reset_5 rfl 0 rfl ?_
  refine ra_iload_n E dX6_reset_6 rfl 2 rfl ?_
  refine pf_X6_1 E h0 fl_X6_15 dX6_reset_7 ?_
  replace h := h _ rfl
  refine ra_aload_n E dX6_reset_10 rfl 0 rfl ?_
  refine ra_iload_n E dX6_reset_11 rfl 3 rfl ?_
  refine pf_X6_2 E h0 fl_X6_18 dX6_reset_12 ?_
  replace h := h _ rfl
  refine ra_aload_n E dX6_reset_15 rfl 0 rfl ?_
  refine ra_iload E dX6_reset_16 4 rfl ?_
  refine pf_X6_4 E h0 fl_X6_24 dX6_reset_18 ?_
  replace h := h _ rfl
  refine ra_aload_n E dX6_reset_21 rfl 0 rfl ?_
  refine ra_callVV (rest := []) E (c_X6_open _ h0 _ _ h) (lq_X6 _) cv_X6_open ml_X6_43 (by decide) (lm h0.lt) (fun R => ⟨_, cel_order tc ad h0 R⟩) rfl rfl rfl (Nat.le_of_ble_eq_true rfl) ⟨Nat.le_of_ble_eq_true rfl, Nat.le_of_ble_eq_true rfl⟩ ⟨Nat.zero_le _, Nat.zero_le _⟩ dX6_reset_22 (fun M5 h => ?_)
  exact ra_vret E hr dX6_reset_25 h
def f_X10_appendInt (p1 : Int32) (M : TM) (K : TM → Prop) : Prop := f_X10_appendByte ((p1.toUInt32 >>> ((24 : Int32).toUInt32 &&& Int32.toUInt32 31)).toInt32) M (fun M1 => f_X10_appendByte ((p1.toUInt32 >>> ((16 : Int32).toUInt32 &&& Int32.toUInt32 31)).toInt32) M1 (fun M2 => f_X10_appendByte ((p1.toUInt32 >>> ((8 : Int32).toUInt32 &&& Int32.toUInt32 31)).toInt32) M2 (fun M3 => f_X10_appendByte p1 M3 (fun M4 => K M4))))
set_option maxRecDepth 100000 in
set_option maxHeartbeats 4000000 in
theorem c_X10_appendInt {ad : Nat → Nat} (p1 : Int32) (M : TM) (K : TM → Prop) (h : f_X10_appendInt p1 M K) : MV yX10_appendInt cX10_appendInt 2 1 ad [.ref (ad 1), .int p1] M K := by
  refine MV_of RX10 rfl (by decide +kernel) (Nat.le_of_ble_eq_true rfl) (fun p l e s m below meth c D tc E hr => ?_)
  unfold f_X10_appendInt at h
  refine ra_aload_n E dX10_appendInt_0 rfl 0 rfl ?_
  refine ra_iload_n E dX10_appendInt_1 rfl 1 rfl ?_
  refine ra_bipush E dX10_appendInt_2 kb_24 ?_
  refine ra_iushr E dX10_appendInt_4 rfl ?_
  refine ra_callVV (rest := []) E (c_X10_appendByte _ _ _ h) (lq_X10 _) cv_X10_appendByte ml_X10_37 (by decide) (lm (by decide)) (fun R => ⟨_, cel_1 tc ad R⟩) rfl rfl rfl (Nat.le_of_ble_eq_true rfl) ⟨Nat.le_of_ble_eq_true rfl, Nat.le_of_ble_eq_true rfl⟩ ⟨Nat.zero_le _, Nat.zero_le _⟩ dX10_appendInt_5 (fun M1 h => ?_)
  refine ra_aload_n E dX10_appendInt_8 rfl 0 rfl ?_
  refine ra_iload_n E dX10_appendInt_9 rfl 1 rfl ?_
  refine ra_bipush E dX10_appendInt_10 kb_16 ?_
  refine ra_iushr E dX10_appendInt_12 rfl ?_
  refine ra_callVV (rest := []) E (c_X10_appendByte _ _ _ h) (lq_X10 _) cv_X10_appendByte ml_X10_37 (by decide) (lm (by decide)) (fun R => ⟨_, cel_1 tc ad R⟩) rfl rfl rfl (Nat.le_of_ble_eq_true rfl) ⟨Nat.le_of_ble_eq_true rfl, Nat.le_of_ble_eq_true rfl⟩ ⟨Nat.zero_le _, Nat.zero_le _⟩ dX10_appendInt_13 (fun M2 h => ?_)
  refine ra_aload_n E dX10_appendInt_16 rfl 0 rfl ?_
  refine ra_iload_n E dX10_appendInt_17 rfl 1 rfl ?_
  refine ra_bipush E dX10_appendInt_18 kb_8 ?_
  refine ra_iushr E dX10_appendInt_20 rfl ?_
  refine ra_callVV (rest := []) E (c_X10_appendByte _ _ _ h) (lq_X10 _) cv_X10_appendByte ml_X10_37 (by decide) (lm (by decide)) (fun R => ⟨_, cel_1 tc ad R⟩) rfl rfl rfl (Nat.le_of_ble_eq_true rfl) ⟨Nat.le_of_ble_eq_true rfl, Nat.le_of_ble_eq_true rfl⟩ ⟨Nat.zero_le _, Nat.zero_le _⟩ dX10_appendInt_21 (fun M3 h => ?_)
  refine ra_aload_n E dX10_appendInt_24 rfl 0 rfl ?_
  refine ra_iload_n E dX10_appendInt_25 rfl 1 rfl ?_
  refine ra_callVV (rest := []) E (c_X10_appendByte _ _ _ h) (lq_X10 _) cv_X10_appendByte ml_X10_37 (by decide) (lm (by decide)) (fun R => ⟨_, cel_1 tc ad R⟩) rfl rfl rfl (Nat.le_of_ble_eq_true rfl) ⟨Nat.le_of_ble_eq_true rfl, Nat.le_of_ble_eq_true rfl⟩ ⟨Nat.zero_le _, Nat.zero_le _⟩ dX10_appendInt_26 (fun M4 h => ?_)
  exact ra_vret E hr dX10_appendInt_29 h
def f_X10_fail (p1 : Int32) (M : TM) (K : TM → Prop) : Prop := f_X10_failAt p1 (M 1 4) M (fun M1 => K M1)
set_option maxRecDepth 100000 in
set_option maxHeartbeats 4000000 in
theorem c_X10_fail {ad : Nat → Nat} (p1 : Int32) (M : TM) (K : TM → Prop) (h : f_X10_fail p1 M K) : MV yX10_fail cX10_fail 2 1 ad [.ref (ad 1), .int p1] M K := by
  refine MV_of RX10 rfl (by decide +kernel) (Nat.le_of_ble_eq_true rfl) (fun p l e s m below meth c D tc E hr => ?_)
  unfold f_X10_fail at h
  refine ra_aload_n E dX10_fail_0 rfl 0 rfl ?_
  refine ra_iload_n E dX10_fail_1 rfl 1 rfl ?_
  refine ra_aload_n E dX10_fail_2 rfl 0 rfl ?_
  refine gf_X10_4 E fl_X10_25 dX10_fail_3 ?_
  refine ra_callVV (rest := []) E (c_X10_failAt _ _ _ _ h) (lq_X10 _) cv_X10_failAt ml_X10_59 (by decide) (lm (by decide)) (fun R => ⟨_, cel_1 tc ad R⟩) rfl rfl rfl (Nat.le_of_ble_eq_true rfl) ⟨Nat.le_of_ble_eq_true rfl, Nat.le_of_ble_eq_true rfl⟩ ⟨Nat.zero_le _, Nat.zero_le _⟩ dX10_fail_6 (fun M1 h => ?_)
  exact ra_vret E hr dX10_fail_9 h
def f_X10_advance_L115  (K : TM → Prop) : Nat → TM → Prop
  | 0, _ => False
  | n + 1, M => (((M 1 2) ≤ (M 1 5) → K M) ∧ (¬ (M 1 2) ≤ (M 1 5) → vp_in (M 1 5) 500 ∧ f_X10_kindOf (M 2 (M 1 5).toNatClampNeg) M (fun r15 M14 => ((¬ r15 = (M14 1 3) → K M14) ∧ (r15 = (M14 1 3) → ∀ M17, M17 = u2 M14 1 5 ((M14 1 5) + (1 : Int32)) → f_X10_advance_L115 K n M17)))))
set_option maxRecDepth 100000 in
set_option maxHeartbeats 4000000 in
theorem l_X10_advance_L115 {p : Program} {l : Launch} {e : Env} {s : State} {m : MethodId} {args : Array Value} {below : List Frame} {meth : Method} {c : Code} {D : va_G} {tc : Nat → ClassId} {ad : Nat → Nat}  {K : TM → Prop} (E : Ev p s m args meth c D tc ad RX10 cX10_advance 1) (hr : meth.sig.returnType = none) : ∀ (n : Nat)  (M : TM) , f_X10_advance_L115  K n  M → Wa p l e (rmD 1) s m args below meth c 0 0 (MQ below (va_Qv K (EndW D tc ad) (A0 ad s.heap.size)) args s 0 0 (A0 ad s.heap.size)) D tc ad 1 M 115 [(0, .ref (ad 1))] [] := by
  intro n
  induction n with
  | zero => intro  M  h; exact h.elim
  | succ n ih =>
    intro  M  h
    unfold f_X10_advance_L115 at h
    refine ra_aload_n E dX10_advance_115 rfl 0 rfl ?_
    refine gf_X10_5 E fl_X10_28 dX10_advance_116 ?_
    refine ra_aload_n E dX10_advance_119 rfl 0 rfl ?_
    refine gf_X10_2 E fl_X10_19 dX10_advance_120 ?_
    refine ra_icmp_ge (tgt := 158) E dX10_advance_123 (by decide) (fun q12 => ?_) (fun q12 => ?_)
    · replace h := h.1 q12
      exact ra_vret E hr dX10_advance_158 h
    · replace h := h.2 q12
      refine ra_aload_n E dX10_advance_126 rfl 0 rfl ?_
      refine gf_X10_0 E fl_X10_9 dX10_advance_127 ?_
      refine ra_aload_n E dX10_advance_130 rfl 0 rfl ?_
      refine gf_X10_5 E fl_X10_28 dX10_advance_131 ?_
      obtain ⟨g13, h⟩ := h
      refine ra_bald E (lm (by decide)) (cel_2 tc ad) g13 dX10_advance_134 ?_
      refine ra_callIS (rest := []) E (c_X10_kindOf _ _ _ h) (lq_X10 _) ct_X10_kindOf ml_X10_63 (by decide) rfl rfl (Nat.le_of_ble_eq_true rfl) ⟨Nat.le_of_ble_eq_true rfl, Nat.le_of_ble_eq_true rfl⟩ ⟨Nat.zero_le _, Nat.zero_le _⟩ dX10_advance_135 (fun r15 M14 h => ?_)
      refine ra_aload_n E dX10_advance_138 rfl 0 rfl ?_
      refine gf_X10_3 E fl_X10_22 dX10_advance_139 ?_
      refine ra_icmp_ne (tgt := 158) E dX10_advance_142 (by decide) (fun q16 => ?_) (fun q16 => ?_)
      · replace h := h.1 q16
        exact ra_vret E hr dX10_advance_158 h
      · replace h := h.2 q16
        refine ra_aload_n E dX10_advance_145 rfl 0 rfl ?_
        refine ra_dup E dX10_advance_146 rfl ?_
        refine gf_X10_5 E fl_X10_28 dX10_advance_147 ?_
        refine ra_iconst E dX10_advance_150 ki_1 ?_
        refine ra_iadd E dX10_advance_151 ?_
        refine pf_X10_5 E fl_X10_28 dX10_advance_152 ?_
        replace h := h _ rfl
        refine ra_goto (tgt := 115) E dX10_advance_155 (by decide) ?_
        exact ra_sub (L' := [(0, _)]) [0] rfl (ih _ h)
def f_X10_advance_L48  (K : TM → Prop)  (M : TM) : Prop := ∀ M3, M3 = u2 M 1 5 (M 1 4) → ∀ M4, M4 = u2 M3 1 3 (0 : Int32) → (((M4 1 4) < (M4 1 2) → vp_in (M4 1 4) 500 ∧ f_X10_kindOf (M4 2 (M4 1 4).toNatClampNeg) M4 (fun r8 M7 => ∀ M9, M9 = u2 M7 1 3 r8 → ∀ M10, M10 = u2 M9 1 5 ((M9 1 5) + (1 : Int32)) → (((M10 1 3) = (3 : Int32) → ∃ n115, f_X10_advance_L115 K n115 M10) ∧ (¬ (M10 1 3) = (3 : Int32) → ((¬ (M10 1 3) = (4 : Int32) → K M10) ∧ ((M10 1 3) = (4 : Int32) → ∃ n115, f_X10_advance_L115 K n115 M10)))))) ∧ (¬ (M4 1 4) < (M4 1 2) → K M4))
set_option maxRecDepth 100000 in
set_option maxHeartbeats 4000000 in
theorem l_X10_advance_L48 {p : Program} {l : Launch} {e : Env} {s : State} {m : MethodId} {args : Array Value} {below : List Frame} {meth : Method} {c : Code} {D : va_G} {tc : Nat → ClassId} {ad : Nat → Nat}  {K : TM → Prop} (E : Ev p s m args meth c D tc ad RX10 cX10_advance 1) (hr : meth.sig.returnType = none) : ∀  (M : TM) , f_X10_advance_L48  K  M → Wa p l e (rmD 1) s m args below meth c 0 0 (MQ below (va_Qv K (EndW D tc ad) (A0 ad s.heap.size)) args s 0 0 (A0 ad s.heap.size)) D tc ad 1 M 48 [(0, .ref (ad 1))] [] := by
  intro  M  h
  unfold f_X10_advance_L48 at h
  refine ra_aload_n E dX10_advance_48 rfl 0 rfl ?_
  refine ra_aload_n E dX10_advance_49 rfl 0 rfl ?_
  refine gf_X10_4 E fl_X10_25 dX10_advance_50 ?_
  refine pf_X10_5 E fl_X10_28 dX10_advance_53 ?_
  replace h := h _ rfl
  refine ra_aload_n E dX10_advance_56 rfl 0 rfl ?_
  refine ra_iconst E dX10_advance_57 ki_0 ?_
  refine pf_X10_3 E fl_X10_22 dX10_advance_58 ?_
  replace h := h _ rfl
  refine ra_aload_n E dX10_advance_61 rfl 0 rfl ?_
  refine gf_X10_4 E fl_X10_25 dX10_advance_62 ?_
  refine ra_aload_n E dX10_advance_65 rfl 0 rfl ?_
  refine gf_X10_2 E fl_X10_19 dX10_advance_66 ?_
  refine ra_icmp_lt (tgt := 73) E dX10_advance_69 (by decide) (fun q5 => ?_) (fun q5 => ?_)
  · replace h := h.1 q5
    refine ra_aload_n E dX10_advance_73 rfl 0 rfl ?_
    refine ra_aload_n E dX10_advance_74 rfl 0 rfl ?_
    refine gf_X10_0 E fl_X10_9 dX10_advance_75 ?_
    refine ra_aload_n E dX10_advance_78 rfl 0 rfl ?_
    refine gf_X10_4 E fl_X10_25 dX10_advance_79 ?_
    obtain ⟨g6, h⟩ := h
    refine ra_bald E (lm (by decide)) (cel_2 tc ad) g6 dX10_advance_82 ?_
    refine ra_callIS (rest := [_]) E (c_X10_kindOf _ _ _ h) (lq_X10 _) ct_X10_kindOf ml_X10_63 (by decide) rfl rfl (Nat.le_of_ble_eq_true rfl) ⟨Nat.le_of_ble_eq_true rfl, Nat.le_of_ble_eq_true rfl⟩ ⟨Nat.zero_le _, Nat.zero_le _⟩ dX10_advance_83 (fun r8 M7 h => ?_)
    refine pf_X10_3 E fl_X10_22 dX10_advance_86 ?_
    replace h := h _ rfl
    refine ra_aload_n E dX10_advance_89 rfl 0 rfl ?_
    refine ra_dup E dX10_advance_90 rfl ?_
    refine gf_X10_5 E fl_X10_28 dX10_advance_91 ?_
    refine ra_iconst E dX10_advance_94 ki_1 ?_
    refine ra_iadd E dX10_advance_95 ?_
    refine pf_X10_5 E fl_X10_28 dX10_advance_96 ?_
    replace h := h _ rfl
    refine ra_aload_n E dX10_advance_99 rfl 0 rfl ?_
    refine gf_X10_3 E fl_X10_22 dX10_advance_100 ?_
    refine ra_iconst E dX10_advance_103 ki_3 ?_
    refine ra_icmp_eq (tgt := 115) E dX10_advance_104 (by decide) (fun q11 => ?_) (fun q11 => ?_)
    · replace h := h.1 q11
      obtain ⟨n18, h⟩ := h
      exact ra_sub (L' := [(0, _)]) [0] rfl (l_X10_advance_L115 E hr n18 _ h)
    · replace h := h.2 q11
      refine ra_aload_n E dX10_advance_107 rfl 0 rfl ?_
      refine gf_X10_3 E fl_X10_22 dX10_advance_108 ?_
      refine ra_iconst E dX10_advance_111 ki_4 ?_
      refine ra_icmp_ne (tgt := 158) E dX10_advance_112 (by decide) (fun q19 => ?_) (fun q19 => ?_)
      · replace h := h.1 q19
        exact ra_vret E hr dX10_advance_158 h
      · replace h := h.2 q19
        obtain ⟨n20, h⟩ := h
        exact ra_sub (L' := [(0, _)]) [0] rfl (l_X10_advance_L115 E hr n20 _ h)
  · replace h := h.2 q5
    exact ra_vret E hr dX10_advance_72 h
def f_X10_advance_L8  (K : TM → Prop) : Nat → TM → Prop
  | 0, _ => False
  | n + 1, M => (((M 1 2) ≤ (M 1 4) → f_X10_advance_L48 K M) ∧ (¬ (M 1 2) ≤ (M 1 4) → vp_in (M 1 4) 500 ∧ f_X10_kindOf (M 2 (M 1 4).toNatClampNeg) M (fun r23 M22 => ((¬ r23 = (2 : Int32) → f_X10_advance_L48 K M22) ∧ (r23 = (2 : Int32) → ∀ M25, M25 = u2 M22 1 4 ((M22 1 4) + (1 : Int32)) → f_X10_advance_L8 K n M25)))))
set_option maxRecDepth 100000 in
set_option maxHeartbeats 4000000 in
theorem l_X10_advance_L8 {p : Program} {l : Launch} {e : Env} {s : State} {m : MethodId} {args : Array Value} {below : List Frame} {meth : Method} {c : Code} {D : va_G} {tc : Nat → ClassId} {ad : Nat → Nat}  {K : TM → Prop} (E : Ev p s m args meth c D tc ad RX10 cX10_advance 1) (hr : meth.sig.returnType = none) : ∀ (n : Nat)  (M : TM) , f_X10_advance_L8  K n  M → Wa p l e (rmD 1) s m args below meth c 0 0 (MQ below (va_Qv K (EndW D tc ad) (A0 ad s.heap.size)) args s 0 0 (A0 ad s.heap.size)) D tc ad 1 M 8 [(0, .ref (ad 1))] [] := by
  intro n
  induction n with
  | zero => intro  M  h; exact h.elim
  | succ n ih =>
    intro  M  h
    unfold f_X10_advance_L8 at h
    refine ra_aload_n E dX10_advance_8 rfl 0 rfl ?_
    refine gf_X10_4 E fl_X10_25 dX10_advance_9 ?_
    refine ra_aload_n E dX10_advance_12 rfl 0 rfl ?_
    refine gf_X10_2 E fl_X10_19 dX10_advance_13 ?_
    refine ra_icmp_ge (tgt := 48) E dX10_advance_16 (by decide) (fun q2 => ?_) (fun q2 => ?_)
    · replace h := h.1 q2
      exact ra_sub (L' := [(0, _)]) [0] rfl (l_X10_advance_L48 E hr  _ h)
    · replace h := h.2 q2
      refine ra_aload_n E dX10_advance_19 rfl 0 rfl ?_
      refine gf_X10_0 E fl_X10_9 dX10_advance_20 ?_
      refine ra_aload_n E dX10_advance_23 rfl 0 rfl ?_
      refine gf_X10_4 E fl_X10_25 dX10_advance_24 ?_
      obtain ⟨g21, h⟩ := h
      refine ra_bald E (lm (by decide)) (cel_2 tc ad) g21 dX10_advance_27 ?_
      refine ra_callIS (rest := []) E (c_X10_kindOf _ _ _ h) (lq_X10 _) ct_X10_kindOf ml_X10_63 (by decide) rfl rfl (Nat.le_of_ble_eq_true rfl) ⟨Nat.le_of_ble_eq_true rfl, Nat.le_of_ble_eq_true rfl⟩ ⟨Nat.zero_le _, Nat.zero_le _⟩ dX10_advance_28 (fun r23 M22 h => ?_)
      refine ra_iconst E dX10_advance_31 ki_2 ?_
      refine ra_icmp_ne (tgt := 48) E dX10_advance_32 (by decide) (fun q24 => ?_) (fun q24 => ?_)
      · replace h := h.1 q24
        exact ra_sub (L' := [(0, _)]) [0] rfl (l_X10_advance_L48 E hr  _ h)
      · replace h := h.2 q24
        refine ra_aload_n E dX10_advance_35 rfl 0 rfl ?_
        refine ra_dup E dX10_advance_36 rfl ?_
        refine gf_X10_4 E fl_X10_25 dX10_advance_37 ?_
        refine ra_iconst E dX10_advance_40 ki_1 ?_
        refine ra_iadd E dX10_advance_41 ?_
        refine pf_X10_4 E fl_X10_25 dX10_advance_42 ?_
        replace h := h _ rfl
        refine ra_goto (tgt := 8) E dX10_advance_45 (by decide) ?_
        exact ra_sub (L' := [(0, _)]) [0] rfl (ih _ h)
def f_X10_advance  (M : TM) (K : TM → Prop) : Prop := ∀ M1, M1 = u2 M 1 4 (M 1 5) → ∃ n8, f_X10_advance_L8 K n8 M1
set_option maxRecDepth 100000 in
set_option maxHeartbeats 4000000 in
theorem c_X10_advance {ad : Nat → Nat}  (M : TM) (K : TM → Prop) (h : f_X10_advance  M K) : MV yX10_advance cX10_advance 1 1 ad [.ref (ad 1)] M K := by
  refine MV_of RX10 rfl (by decide +kernel) (Nat.le_of_ble_eq_true rfl) (fun p l e s m below meth c D tc E hr => ?_)
  unfold f_X10_advance at h
  refine ra_aload_n E dX10_advance_0 rfl 0 rfl ?_
  refine ra_aload_n E dX10_advance_1 rfl 0 rfl ?_
  refine gf_X10_5 E fl_X10_28 dX10_advance_2 ?_
  refine pf_X10_4 E fl_X10_25 dX10_advance_5 ?_
  replace h := h _ rfl
  obtain ⟨n26, h⟩ := h
  exact ra_sub (L' := [(0, _)]) [0] rfl (l_X10_advance_L8 E hr n26 _ h)
def f_X10_readToken (p1 : Int32) (M : TM) (K : TM → Prop) : Prop := f_X10_isAt p1 M (fun r2 M1 => ((r2 = 0 → f_X10_fail (1 : Int32) M1 (fun M5 => K M5)) ∧ (¬ r2 = 0 → f_X10_advance M1 (fun M6 => K M6))))
set_option maxRecDepth 100000 in
set_option maxHeartbeats 4000000 in
theorem c_X10_readToken {ad : Nat → Nat} (p1 : Int32) (M : TM) (K : TM → Prop) (h : f_X10_readToken p1 M K) : MV yX10_readToken cX10_readToken 2 2 ad [.ref (ad 1), .int p1] M K := by
  refine MV_of RX10 rfl (by decide +kernel) (Nat.le_of_ble_eq_true rfl) (fun p l e s m below meth c D tc E hr => ?_)
  unfold f_X10_readToken at h
  refine ra_aload_n E dX10_readToken_0 rfl 0 rfl ?_
  refine ra_iload_n E dX10_readToken_1 rfl 1 rfl ?_
  refine ra_callIV (rest := []) E (c_X10_isAt _ _ _ h) (lq_X10 _) cv_X10_isAt ml_X10_67 (by decide) (lm (by decide)) (fun R => ⟨_, cel_1 tc ad R⟩) rfl rfl rfl (Nat.le_of_ble_eq_true rfl) ⟨Nat.le_of_ble_eq_true rfl, Nat.le_of_ble_eq_true rfl⟩ ⟨Nat.zero_le _, Nat.zero_le _⟩ dX10_readToken_2 (fun r2 M1 h => ?_)
  obtain ⟨b3, h⟩ := h
  refine ra_if_eq (tgt := 15) E dX10_readToken_5 (by decide) (fun q4 => ?_) (fun q4 => ?_)
  · replace h := h.1 q4
    refine ra_aload_n E dX10_readToken_15 rfl 0 rfl ?_
    refine ra_iconst E dX10_readToken_16 ki_1 ?_
    refine ra_callVV (rest := []) E (c_X10_fail _ _ _ h) (lq_X10 _) cv_X10_fail ml_X10_75 (by decide) (lm (by decide)) (fun R => ⟨_, cel_1 tc ad R⟩) rfl rfl rfl (Nat.le_of_ble_eq_true rfl) ⟨Nat.le_of_ble_eq_true rfl, Nat.le_of_ble_eq_true rfl⟩ ⟨Nat.zero_le _, Nat.zero_le _⟩ dX10_readToken_17 (fun M5 h => ?_)
    exact ra_vret E hr dX10_readToken_20 h
  · replace h := h.2 q4
    refine ra_aload_n E dX10_readToken_8 rfl 0 rfl ?_
    refine ra_callVV (rest := []) E (c_X10_advance _ _ h) (lq_X10 _) cv_X10_advance ml_X10_56 (by decide) (lm (by decide)) (fun R => ⟨_, cel_1 tc ad R⟩) rfl rfl rfl (Nat.le_of_ble_eq_true rfl) ⟨Nat.le_of_ble_eq_true rfl, Nat.le_of_ble_eq_true rfl⟩ ⟨Nat.zero_le _, Nat.zero_le _⟩ dX10_readToken_9 (fun M6 h => ?_)
    refine ra_goto (tgt := 20) E dX10_readToken_12 (by decide) ?_
    exact ra_vret E hr dX10_readToken_20 h
def f_X10_readNumber_L69 (p1 : Int32) (p2 : Int32) (K : Int32 → TM → Prop) (x1 : Int32) (x2 : Int32) (x3 : Int32) (M : TM) : Prop := ((x3 < x1 → f_X10_fail (2 : Int32) M (fun M7 => K x1 M7)) ∧ (¬ x3 < x1 → ((x3 ≤ x2 → f_X10_advance M (fun M9 => K x3 M9)) ∧ (¬ x3 ≤ x2 → f_X10_fail (2 : Int32) M (fun M10 => K x1 M10)))))
set_option maxRecDepth 100000 in
set_option maxHeartbeats 4000000 in
theorem l_X10_readNumber_L69 {p : Program} {l : Launch} {e : Env} {s : State} {m : MethodId} {args : Array Value} {below : List Frame} {meth : Method} {c : Code} {D : va_G} {tc : Nat → ClassId} {ad : Nat → Nat} (p1 : Int32) (p2 : Int32) {K : Int32 → TM → Prop} (E : Ev p s m args meth c D tc ad RX10 cX10_readNumber 5) (hr : meth.sig.returnType = (some .int)) : ∀ (x1 : Int32) (x2 : Int32) (x3 : Int32) (M : TM) , f_X10_readNumber_L69 p1 p2 K x1 x2 x3 M → Wa p l e (rmD 2) s m args below meth c 0 0 (MQ below (va_Qi K (EndW D tc ad) (A0 ad s.heap.size)) args s 0 0 (A0 ad s.heap.size)) D tc ad 5 M 69 [(0, .ref (ad 1)), (1, .int x1), (2, .int x2), (3, .int x3)] [] := by
  intro x1 x2 x3 M  h
  unfold f_X10_readNumber_L69 at h
  refine ra_iload_n E dX10_readNumber_69 rfl 3 rfl ?_
  refine ra_iload_n E dX10_readNumber_70 rfl 1 rfl ?_
  refine ra_icmp_lt (tgt := 79) E dX10_readNumber_71 (by decide) (fun q6 => ?_) (fun q6 => ?_)
  · replace h := h.1 q6
    refine ra_aload_n E dX10_readNumber_79 rfl 0 rfl ?_
    refine ra_iconst E dX10_readNumber_80 ki_2 ?_
    refine ra_callVV (rest := []) E (c_X10_fail _ _ _ h) (lq_X10 _) cv_X10_fail ml_X10_75 (by decide) (lm (by decide)) (fun R => ⟨_, cel_1 tc ad R⟩) rfl rfl rfl (Nat.le_of_ble_eq_true rfl) ⟨Nat.le_of_ble_eq_true rfl, Nat.le_of_ble_eq_true rfl⟩ ⟨Nat.zero_le _, Nat.zero_le _⟩ dX10_readNumber_81 (fun M7 h => ?_)
    refine ra_iload_n E dX10_readNumber_84 rfl 1 rfl ?_
    exact ra_iret E hr dX10_readNumber_85 h
  · replace h := h.2 q6
    refine ra_iload_n E dX10_readNumber_74 rfl 3 rfl ?_
    refine ra_iload_n E dX10_readNumber_75 rfl 2 rfl ?_
    refine ra_icmp_le (tgt := 86) E dX10_readNumber_76 (by decide) (fun q8 => ?_) (fun q8 => ?_)
    · replace h := h.1 q8
      refine ra_aload_n E dX10_readNumber_86 rfl 0 rfl ?_
      refine ra_callVV (rest := []) E (c_X10_advance _ _ h) (lq_X10 _) cv_X10_advance ml_X10_56 (by decide) (lm (by decide)) (fun R => ⟨_, cel_1 tc ad R⟩) rfl rfl rfl (Nat.le_of_ble_eq_true rfl) ⟨Nat.le_of_ble_eq_true rfl, Nat.le_of_ble_eq_true rfl⟩ ⟨Nat.zero_le _, Nat.zero_le _⟩ dX10_readNumber_87 (fun M9 h => ?_)
      refine ra_iload_n E dX10_readNumber_90 rfl 3 rfl ?_
      exact ra_iret E hr dX10_readNumber_91 h
    · replace h := h.2 q8
      refine ra_aload_n E dX10_readNumber_79 rfl 0 rfl ?_
      refine ra_iconst E dX10_readNumber_80 ki_2 ?_
      refine ra_callVV (rest := []) E (c_X10_fail _ _ _ h) (lq_X10 _) cv_X10_fail ml_X10_75 (by decide) (lm (by decide)) (fun R => ⟨_, cel_1 tc ad R⟩) rfl rfl rfl (Nat.le_of_ble_eq_true rfl) ⟨Nat.le_of_ble_eq_true rfl, Nat.le_of_ble_eq_true rfl⟩ ⟨Nat.zero_le _, Nat.zero_le _⟩ dX10_readNumber_81 (fun M10 h => ?_)
      refine ra_iload_n E dX10_readNumber_84 rfl 1 rfl ?_
      exact ra_iret E hr dX10_readNumber_85 h
def f_X10_readNumber_L23 (p1 : Int32) (p2 : Int32) (K : Int32 → TM → Prop) : Nat → Int32 → Int32 → Int32 → Int32 → TM → Prop
  | 0, _, _, _, _, _ => False
  | n + 1, x1, x2, x3, x4, M => (((M 1 5) ≤ x4 → f_X10_readNumber_L69 p1 p2 K x1 x2 x3 M) ∧ (¬ (M 1 5) ≤ x4 → (((500 : Int32) ≤ x4 → f_X10_readNumber_L69 p1 p2 K x1 x2 x3 M) ∧ (¬ (500 : Int32) ≤ x4 → vp_in x4 500 ∧ f_X10_readNumber_L23 p1 p2 K n x1 x2 (if (100000 : Int32) < ((((10 : Int32) * x3) + (M 2 x4.toNatClampNeg)) - (48 : Int32)) then (100000 : Int32) else ((((10 : Int32) * x3) + (M 2 x4.toNatClampNeg)) - (48 : Int32))) (x4 + 1) M))))
set_option maxRecDepth 100000 in
set_option maxHeartbeats 4000000 in
theorem l_X10_readNumber_L23 {p : Program} {l : Launch} {e : Env} {s : State} {m : MethodId} {args : Array Value} {below : List Frame} {meth : Method} {c : Code} {D : va_G} {tc : Nat → ClassId} {ad : Nat → Nat} (p1 : Int32) (p2 : Int32) {K : Int32 → TM → Prop} (E : Ev p s m args meth c D tc ad RX10 cX10_readNumber 5) (hr : meth.sig.returnType = (some .int)) : ∀ (n : Nat) (x1 : Int32) (x2 : Int32) (x3 : Int32) (x4 : Int32) (M : TM) , f_X10_readNumber_L23 p1 p2 K n x1 x2 x3 x4 M → Wa p l e (rmD 2) s m args below meth c 0 0 (MQ below (va_Qi K (EndW D tc ad) (A0 ad s.heap.size)) args s 0 0 (A0 ad s.heap.size)) D tc ad 5 M 23 [(0, .ref (ad 1)), (1, .int x1), (2, .int x2), (3, .int x3), (4, .int x4)] [] := by
  intro n
  induction n with
  | zero => intro x1 x2 x3 x4 M  h; exact h.elim
  | succ n ih =>
    intro x1 x2 x3 x4 M  h
    unfold f_X10_readNumber_L23 at h
    refine ra_iload E dX10_readNumber_23 4 rfl ?_
    refine ra_aload_n E dX10_readNumber_25 rfl 0 rfl ?_
    refine gf_X10_5 E fl_X10_28 dX10_readNumber_26 ?_
    refine ra_icmp_ge (tgt := 69) E dX10_readNumber_29 (by decide) (fun q5 => ?_) (fun q5 => ?_)
    · replace h := h.1 q5
      exact ra_sub (L' := [(0, _), (1, _), (2, _), (3, _)]) [0, 1, 2, 3] rfl (l_X10_readNumber_L69 p1 p2 E hr _ _ _ _ h)
    · replace h := h.2 q5
      refine ra_iload E dX10_readNumber_32 4 rfl ?_
      refine ra_aload_n E dX10_readNumber_34 rfl 0 rfl ?_
      refine gf_X10_0 E fl_X10_9 dX10_readNumber_35 ?_
      refine ra_alen (n := 500) (v := 500) E (lm (by decide)) (fun R => ⟨_, (cel_2 tc ad) R, rfl⟩) rfl (by decide) dX10_readNumber_38 ?_
      refine ra_icmp_ge (tgt := 69) E dX10_readNumber_39 (by decide) (fun q11 => ?_) (fun q11 => ?_)
      · replace h := h.1 q11
        exact ra_sub (L' := [(0, _), (1, _), (2, _), (3, _)]) [0, 1, 2, 3] rfl (l_X10_readNumber_L69 p1 p2 E hr _ _ _ _ h)
      · replace h := h.2 q11
        refine ra_bipush E dX10_readNumber_42 kb_10 ?_
        refine ra_iload_n E dX10_readNumber_44 rfl 3 rfl ?_
        refine ra_imul E dX10_readNumber_45 ?_
        refine ra_aload_n E dX10_readNumber_46 rfl 0 rfl ?_
        refine gf_X10_0 E fl_X10_9 dX10_readNumber_47 ?_
        refine ra_iload E dX10_readNumber_50 4 rfl ?_
        obtain ⟨g12, h⟩ := h
        refine ra_bald E (lm (by decide)) (cel_2 tc ad) g12 dX10_readNumber_52 ?_
        refine ra_iadd E dX10_readNumber_53 ?_
        refine ra_bipush E dX10_readNumber_54 kb_48 ?_
        refine ra_isub E dX10_readNumber_56 ?_
        refine ra_ldci (v := 100000) E kc_X10_78 dX10_readNumber_57 ?_
        refine ra_mmin E ml_X10_50 ⟨Nat.le_of_ble_eq_true rfl, Nat.le_of_ble_eq_true rfl⟩ ⟨Nat.zero_le _, Nat.zero_le _⟩ dX10_readNumber_59 ?_
        refine ra_istore_n (L' := [(3, _), (0, _), (1, _), (2, _), (4, _)]) E dX10_readNumber_62 rfl (by decide) rfl ?_
        refine ra_iinc1 (L' := [(4, _), (3, _), (0, _), (1, _), (2, _)]) E dX10_readNumber_63 4 rfl (by decide) rfl ?_
        refine ra_goto (tgt := 23) E dX10_readNumber_66 (by decide) ?_
        exact ra_sub (L' := [(0, _), (1, _), (2, _), (3, _), (4, _)]) [2, 3, 4, 1, 0] rfl (ih _ _ _ _ _ h)
def f_X10_readNumber (p1 : Int32) (p2 : Int32) (M : TM) (K : Int32 → TM → Prop) : Prop := f_X10_isAt (4 : Int32) M (fun r2 M1 => ((¬ r2 = 0 → ∃ n23, f_X10_readNumber_L23 p1 p2 K n23 p1 p2 (0 : Int32) (M1 1 4) M1) ∧ (r2 = 0 → f_X10_fail (1 : Int32) M1 (fun M14 => K p1 M14))))
set_option maxRecDepth 100000 in
set_option maxHeartbeats 4000000 in
theorem c_X10_readNumber {ad : Nat → Nat} (p1 : Int32) (p2 : Int32) (M : TM) (K : Int32 → TM → Prop) (h : f_X10_readNumber p1 p2 M K) : MI yX10_readNumber cX10_readNumber 5 (some .int) 2 ad [.ref (ad 1), .int p1, .int p2] M K := by
  refine MI_of RX10 rfl (by decide +kernel) (Nat.le_of_ble_eq_true rfl) (fun p l e s m below meth c D tc E hr => ?_)
  unfold f_X10_readNumber at h
  refine ra_aload_n E dX10_readNumber_0 rfl 0 rfl ?_
  refine ra_iconst E dX10_readNumber_1 ki_4 ?_
  refine ra_callIV (rest := []) E (c_X10_isAt _ _ _ h) (lq_X10 _) cv_X10_isAt ml_X10_67 (by decide) (lm (by decide)) (fun R => ⟨_, cel_1 tc ad R⟩) rfl rfl rfl (Nat.le_of_ble_eq_true rfl) ⟨Nat.le_of_ble_eq_true rfl, Nat.le_of_ble_eq_true rfl⟩ ⟨Nat.zero_le _, Nat.zero_le _⟩ dX10_readNumber_2 (fun r2 M1 h => ?_)
  obtain ⟨b3, h⟩ := h
  refine ra_if_ne (tgt := 15) E dX10_readNumber_5 (by decide) (fun q4 => ?_) (fun q4 => ?_)
  · replace h := h.1 q4
    refine ra_iconst E dX10_readNumber_15 ki_0 ?_
    refine ra_istore_n (L' := [(3, _), (0, _), (1, _), (2, _)]) E dX10_readNumber_16 rfl (by decide) rfl ?_
    refine ra_aload_n E dX10_readNumber_17 rfl 1 rfl ?_
    refine gf_X10_4 E fl_X10_25 dX10_readNumber_18 ?_
    refine ra_istore (L' := [(4, _), (3, _), (0, _), (1, _), (2, _)]) E dX10_readNumber_21 (by decide) rfl ?_
    obtain ⟨n13, h⟩ := h
    exact ra_sub (L' := [(0, _), (1, _), (2, _), (3, _), (4, _)]) [2, 3, 4, 1, 0] rfl (l_X10_readNumber_L23 p1 p2 E hr n13 _ _ _ _ _ h)
  · replace h := h.2 q4
    refine ra_aload_n E dX10_readNumber_8 rfl 0 rfl ?_
    refine ra_iconst E dX10_readNumber_9 ki_1 ?_
    refine ra_callVV (rest := []) E (c_X10_fail _ _ _ h) (lq_X10 _) cv_X10_fail ml_X10_75 (by decide) (lm (by decide)) (fun R => ⟨_, cel_1 tc ad R⟩) rfl rfl rfl (Nat.le_of_ble_eq_true rfl) ⟨Nat.le_of_ble_eq_true rfl, Nat.le_of_ble_eq_true rfl⟩ ⟨Nat.zero_le _, Nat.zero_le _⟩ dX10_readNumber_10 (fun M14 h => ?_)
    refine ra_iload_n E dX10_readNumber_13 rfl 1 rfl ?_
    exact ra_iret E hr dX10_readNumber_14 h
def f_X12_appendText (p1 : Int32) (p2 : Int32) (p3 : Int32) (p4 : Int32) (p5 : Int32) (M : TM) (K : Int32 → TM → Prop) : Prop := f_X10_hasRoomFor (20 : Int32) M (fun r2 M1 => ((¬ r2 = 0 → f_X10_appendInt p1 M1 (fun M5 => f_X10_appendInt p2 M5 (fun M6 => f_X10_appendInt p3 M6 (fun M7 => f_X10_appendInt p4 M7 (fun M8 => f_X10_appendInt p5 M8 (fun M9 => K (M9 1 1) M9)))))) ∧ (r2 = 0 → K (-1 : Int32) M1)))
set_option maxRecDepth 100000 in
set_option maxHeartbeats 4000000 in
theorem c_X12_appendText {ad : Nat → Nat} (p1 : Int32) (p2 : Int32) (p3 : Int32) (p4 : Int32) (p5 : Int32) (M : TM) (K : Int32 → TM → Prop) (h : f_X12_appendText p1 p2 p3 p4 p5 M K) : MI yX12_appendText cX12_appendText 6 (some .int) 2 ad [.ref (ad 0), .int p1, .int p2, .int p3, .int p4, .int p5] M K := by
  refine MI_of RX12 rfl (by decide +kernel) (Nat.le_of_ble_eq_true rfl) (fun p l e s m below meth c D tc E hr => ?_)
  unfold f_X12_appendText at h
  refine ra_aload_n E dX12_appendText_0 rfl 0 rfl ?_
  refine gf_X12_0 E fl_X12_10 dX12_appendText_1 ?_
  refine ra_bipush E dX12_appendText_4 kb_20 ?_
  refine ra_callIV (rest := []) E (c_X10_hasRoomFor _ _ _ h) (lq_X10 _) cv_X10_hasRoomFor ml_X12_80 (by decide) (lm (by decide)) (fun R => ⟨_, cel_1 tc ad R⟩) rfl rfl rfl (Nat.le_of_ble_eq_true rfl) ⟨Nat.le_of_ble_eq_true rfl, Nat.le_of_ble_eq_true rfl⟩ ⟨Nat.zero_le _, Nat.zero_le _⟩ dX12_appendText_6 (fun r2 M1 h => ?_)
  obtain ⟨b3, h⟩ := h
  refine ra_if_ne (tgt := 14) E dX12_appendText_9 (by decide) (fun q4 => ?_) (fun q4 => ?_)
  · replace h := h.1 q4
    refine ra_aload_n E dX12_appendText_14 rfl 0 rfl ?_
    refine gf_X12_0 E fl_X12_10 dX12_appendText_15 ?_
    refine ra_iload_n E dX12_appendText_18 rfl 1 rfl ?_
    refine ra_callVV (rest := []) E (c_X10_appendInt _ _ _ h) (lq_X10 _) cv_X10_appendInt ml_X12_84 (by decide) (lm (by decide)) (fun R => ⟨_, cel_1 tc ad R⟩) rfl rfl rfl (Nat.le_of_ble_eq_true rfl) ⟨Nat.le_of_ble_eq_true rfl, Nat.le_of_ble_eq_true rfl⟩ ⟨Nat.zero_le _, Nat.zero_le _⟩ dX12_appendText_19 (fun M5 h => ?_)
    refine ra_aload_n E dX12_appendText_22 rfl 0 rfl ?_
    refine gf_X12_0 E fl_X12_10 dX12_appendText_23 ?_
    refine ra_iload_n E dX12_appendText_26 rfl 2 rfl ?_
    refine ra_callVV (rest := []) E (c_X10_appendInt _ _ _ h) (lq_X10 _) cv_X10_appendInt ml_X12_84 (by decide) (lm (by decide)) (fun R => ⟨_, cel_1 tc ad R⟩) rfl rfl rfl (Nat.le_of_ble_eq_true rfl) ⟨Nat.le_of_ble_eq_true rfl, Nat.le_of_ble_eq_true rfl⟩ ⟨Nat.zero_le _, Nat.zero_le _⟩ dX12_appendText_27 (fun M6 h => ?_)
    refine ra_aload_n E dX12_appendText_30 rfl 0 rfl ?_
    refine gf_X12_0 E fl_X12_10 dX12_appendText_31 ?_
    refine ra_iload_n E dX12_appendText_34 rfl 3 rfl ?_
    refine ra_callVV (rest := []) E (c_X10_appendInt _ _ _ h) (lq_X10 _) cv_X10_appendInt ml_X12_84 (by decide) (lm (by decide)) (fun R => ⟨_, cel_1 tc ad R⟩) rfl rfl rfl (Nat.le_of_ble_eq_true rfl) ⟨Nat.le_of_ble_eq_true rfl, Nat.le_of_ble_eq_true rfl⟩ ⟨Nat.zero_le _, Nat.zero_le _⟩ dX12_appendText_35 (fun M7 h => ?_)
    refine ra_aload_n E dX12_appendText_38 rfl 0 rfl ?_
    refine gf_X12_0 E fl_X12_10 dX12_appendText_39 ?_
    refine ra_iload E dX12_appendText_42 4 rfl ?_
    refine ra_callVV (rest := []) E (c_X10_appendInt _ _ _ h) (lq_X10 _) cv_X10_appendInt ml_X12_84 (by decide) (lm (by decide)) (fun R => ⟨_, cel_1 tc ad R⟩) rfl rfl rfl (Nat.le_of_ble_eq_true rfl) ⟨Nat.le_of_ble_eq_true rfl, Nat.le_of_ble_eq_true rfl⟩ ⟨Nat.zero_le _, Nat.zero_le _⟩ dX12_appendText_44 (fun M8 h => ?_)
    refine ra_aload_n E dX12_appendText_47 rfl 0 rfl ?_
    refine gf_X12_0 E fl_X12_10 dX12_appendText_48 ?_
    refine ra_iload E dX12_appendText_51 5 rfl ?_
    refine ra_callVV (rest := []) E (c_X10_appendInt _ _ _ h) (lq_X10 _) cv_X10_appendInt ml_X12_84 (by decide) (lm (by decide)) (fun R => ⟨_, cel_1 tc ad R⟩) rfl rfl rfl (Nat.le_of_ble_eq_true rfl) ⟨Nat.le_of_ble_eq_true rfl, Nat.le_of_ble_eq_true rfl⟩ ⟨Nat.zero_le _, Nat.zero_le _⟩ dX12_appendText_53 (fun M9 h => ?_)
    refine ra_aload_n E dX12_appendText_56 rfl 0 rfl ?_
    refine gf_X12_0 E fl_X12_10 dX12_appendText_57 ?_
    refine gf_X10_1 E fl_X12_87 dX12_appendText_60 ?_
    exact ra_iret E hr dX12_appendText_63 h
  · replace h := h.2 q4
    refine ra_iconst E dX12_appendText_12 ki_m1 ?_
    exact ra_iret E hr dX12_appendText_13 h
def f_X12_lockWait (p1 : Int32) (M : TM) (K : Int32 → TM → Prop) : Prop := f_X12_sectionAt p1 M (fun o2 M1 => (∃ x3, IsSec x3 ∧ o2 = some x3) ∧ (∀ x3, IsSec x3 → o2 = some x3 → K (M1 x3 0) M1))
set_option maxRecDepth 100000 in
set_option maxHeartbeats 4000000 in
theorem c_X12_lockWait {ad : Nat → Nat} (p1 : Int32) (M : TM) (K : Int32 → TM → Prop) (h : f_X12_lockWait p1 M K) : MI yX12_lockWait cX12_lockWait 2 (some .int) 2 ad [.ref (ad 0), .int p1] M K := by
  refine MI_of RX12 rfl (by decide +kernel) (Nat.le_of_ble_eq_true rfl) (fun p l e s m below meth c D tc E hr => ?_)
  unfold f_X12_lockWait at h
  refine ra_aload_n E dX12_lockWait_0 rfl 0 rfl ?_
  refine ra_iload_n E dX12_lockWait_1 rfl 1 rfl ?_
  refine ra_callAV (rest := []) E (c_X12_sectionAt _ _ _ h) (lq_X12 _) cv_X12_sectionAt ml_X12_115 (by decide) (lm (by decide)) (fun R => ⟨_, cel_0 tc ad R⟩) rfl rfl rfl (Nat.le_of_ble_eq_true rfl) ⟨Nat.le_of_ble_eq_true rfl, Nat.le_of_ble_eq_true rfl⟩ ⟨Nat.zero_le _, Nat.zero_le _⟩ dX12_lockWait_2 (fun o2 M1 h => ?_)
  obtain ⟨q5, q7⟩ := h
  obtain ⟨x3, g4, q5⟩ := q5
  replace h := q7 x3 g4 q5
  subst q5
  refine gf_X9_0 E g4 fl_X12_119 dX12_lockWait_5 ?_
  exact ra_iret E hr dX12_lockWait_8 h
def f_X12_bargeInLock (p1 : Int32) (M : TM) (K : Int32 → TM → Prop) : Prop := f_X12_sectionAt p1 M (fun o2 M1 => (∃ x3, IsSec x3 ∧ o2 = some x3) ∧ (∀ x3, IsSec x3 → o2 = some x3 → K (M1 x3 2) M1))
set_option maxRecDepth 100000 in
set_option maxHeartbeats 4000000 in
theorem c_X12_bargeInLock {ad : Nat → Nat} (p1 : Int32) (M : TM) (K : Int32 → TM → Prop) (h : f_X12_bargeInLock p1 M K) : MI yX12_bargeInLock cX12_bargeInLock 2 (some .int) 2 ad [.ref (ad 0), .int p1] M K := by
  refine MI_of RX12 rfl (by decide +kernel) (Nat.le_of_ble_eq_true rfl) (fun p l e s m below meth c D tc E hr => ?_)
  unfold f_X12_bargeInLock at h
  refine ra_aload_n E dX12_bargeInLock_0 rfl 0 rfl ?_
  refine ra_iload_n E dX12_bargeInLock_1 rfl 1 rfl ?_
  refine ra_callAV (rest := []) E (c_X12_sectionAt _ _ _ h) (lq_X12 _) cv_X12_sectionAt ml_X12_115 (by decide) (lm (by decide)) (fun R => ⟨_, cel_0 tc ad R⟩) rfl rfl rfl (Nat.le_of_ble_eq_true rfl) ⟨Nat.le_of_ble_eq_true rfl, Nat.le_of_ble_eq_true rfl⟩ ⟨Nat.zero_le _, Nat.zero_le _⟩ dX12_bargeInLock_2 (fun o2 M1 h => ?_)
  obtain ⟨q5, q7⟩ := h
  obtain ⟨x3, g4, q5⟩ := q5
  replace h := q7 x3 g4 q5
  subst q5
  refine gf_X9_2 E g4 fl_X12_127 dX12_bargeInLock_5 ?_
  exact ra_iret E hr dX12_bargeInLock_8 h
def f_X12_usedPairs (p1 : Int32) (M : TM) (K : Int32 → TM → Prop) : Prop := f_X12_requirePlace p1 M (fun M1 => vp_in (M1 0 5) 11 ∧ vp_in p1 16 ∧ K (M1 ((27 + 61 * (M1 0 5).toNatClampNeg) + 2) p1.toNatClampNeg) M1)
set_option maxRecDepth 100000 in
set_option maxHeartbeats 4000000 in
theorem c_X12_usedPairs {ad : Nat → Nat} (p1 : Int32) (M : TM) (K : Int32 → TM → Prop) (h : f_X12_usedPairs p1 M K) : MI yX12_usedPairs cX12_usedPairs 2 (some .int) 2 ad [.ref (ad 0), .int p1] M K := by
  refine MI_of RX12 rfl (by decide +kernel) (Nat.le_of_ble_eq_true rfl) (fun p l e s m below meth c D tc E hr => ?_)
  unfold f_X12_usedPairs at h
  refine ra_aload_n E dX12_usedPairs_0 rfl 0 rfl ?_
  refine ra_iload_n E dX12_usedPairs_1 rfl 1 rfl ?_
  refine ra_callVV (rest := []) E (c_X12_requirePlace _ _ _ h) (lq_X12 _) cv_X12_requirePlace ml_X12_130 (by decide) (lm (by decide)) (fun R => ⟨_, cel_0 tc ad R⟩) rfl rfl rfl (Nat.le_of_ble_eq_true rfl) ⟨Nat.le_of_ble_eq_true rfl, Nat.le_of_ble_eq_true rfl⟩ ⟨Nat.zero_le _, Nat.zero_le _⟩ dX12_usedPairs_2 (fun M1 h => ?_)
  refine ra_aload_n E dX12_usedPairs_5 rfl 0 rfl ?_
  obtain ⟨g2, h⟩ := h
  refine gf_X12_5 E fl_X12_41 dX12_usedPairs_6 ?_
  refine gf_X2_2 E (isCanal_of g2) fl_X12_133 dX12_usedPairs_9 ?_
  refine ra_iload_n E dX12_usedPairs_12 rfl 1 rfl ?_
  obtain ⟨g3, h⟩ := h
  refine ra_iald E (lm ((isCanal_of g2).add (by decide))) (cel_used tc ad (isCanal_of g2)) g3 dX12_usedPairs_13 ?_
  exact ra_iret E hr dX12_usedPairs_14 h
def f_X12_bargesAt (p1 : Int32) (M : TM) (K : Int32 → TM → Prop) : Prop := f_X12_requirePlace p1 M (fun M1 => vp_in (M1 0 5) 11 ∧ f_X2_countBargesAt (27 + 61 * (M1 0 5).toNatClampNeg) p1 M1 (fun r4 M3 => K r4 M3))
set_option maxRecDepth 100000 in
set_option maxHeartbeats 4000000 in
theorem c_X12_bargesAt {ad : Nat → Nat} (p1 : Int32) (M : TM) (K : Int32 → TM → Prop) (h : f_X12_bargesAt p1 M K) : MI yX12_bargesAt cX12_bargesAt 2 (some .int) 2 ad [.ref (ad 0), .int p1] M K := by
  refine MI_of RX12 rfl (by decide +kernel) (Nat.le_of_ble_eq_true rfl) (fun p l e s m below meth c D tc E hr => ?_)
  unfold f_X12_bargesAt at h
  refine ra_aload_n E dX12_bargesAt_0 rfl 0 rfl ?_
  refine ra_iload_n E dX12_bargesAt_1 rfl 1 rfl ?_
  refine ra_callVV (rest := []) E (c_X12_requirePlace _ _ _ h) (lq_X12 _) cv_X12_requirePlace ml_X12_130 (by decide) (lm (by decide)) (fun R => ⟨_, cel_0 tc ad R⟩) rfl rfl rfl (Nat.le_of_ble_eq_true rfl) ⟨Nat.le_of_ble_eq_true rfl, Nat.le_of_ble_eq_true rfl⟩ ⟨Nat.zero_le _, Nat.zero_le _⟩ dX12_bargesAt_2 (fun M1 h => ?_)
  refine ra_aload_n E dX12_bargesAt_5 rfl 0 rfl ?_
  obtain ⟨g2, h⟩ := h
  refine gf_X12_5 E fl_X12_41 dX12_bargesAt_6 ?_
  refine ra_iload_n E dX12_bargesAt_9 rfl 1 rfl ?_
  refine ra_callIV (rest := []) E (c_X2_countBargesAt _ (isCanal_of g2) _ _ _ h) (lq_X2 _) cv_X2_countBargesAt ml_X12_137 (by decide) (lm ((isCanal_of g2).add (j := 0) (by decide))) (fun R => ⟨_, cel_canal tc ad (isCanal_of g2) R⟩) rfl rfl rfl (Nat.le_of_ble_eq_true rfl) ⟨Nat.le_of_ble_eq_true rfl, Nat.le_of_ble_eq_true rfl⟩ ⟨Nat.zero_le _, Nat.zero_le _⟩ dX12_bargesAt_10 (fun r4 M3 h => ?_)
  exact ra_iret E hr dX12_bargesAt_13 h
def f_X12_ordersAt (p1 : Int32) (M : TM) (K : Int32 → TM → Prop) : Prop := f_X12_requirePlace p1 M (fun M1 => vp_in (M1 0 5) 11 ∧ f_X2_countOrdersAt (27 + 61 * (M1 0 5).toNatClampNeg) p1 M1 (fun r4 M3 => K r4 M3))
set_option maxRecDepth 100000 in
set_option maxHeartbeats 4000000 in
theorem c_X12_ordersAt {ad : Nat → Nat} (p1 : Int32) (M : TM) (K : Int32 → TM → Prop) (h : f_X12_ordersAt p1 M K) : MI yX12_ordersAt cX12_ordersAt 2 (some .int) 3 ad [.ref (ad 0), .int p1] M K := by
  refine MI_of RX12 rfl (by decide +kernel) (Nat.le_of_ble_eq_true rfl) (fun p l e s m below meth c D tc E hr => ?_)
  unfold f_X12_ordersAt at h
  refine ra_aload_n E dX12_ordersAt_0 rfl 0 rfl ?_
  refine ra_iload_n E dX12_ordersAt_1 rfl 1 rfl ?_
  refine ra_callVV (rest := []) E (c_X12_requirePlace _ _ _ h) (lq_X12 _) cv_X12_requirePlace ml_X12_130 (by decide) (lm (by decide)) (fun R => ⟨_, cel_0 tc ad R⟩) rfl rfl rfl (Nat.le_of_ble_eq_true rfl) ⟨Nat.le_of_ble_eq_true rfl, Nat.le_of_ble_eq_true rfl⟩ ⟨Nat.zero_le _, Nat.zero_le _⟩ dX12_ordersAt_2 (fun M1 h => ?_)
  refine ra_aload_n E dX12_ordersAt_5 rfl 0 rfl ?_
  obtain ⟨g2, h⟩ := h
  refine gf_X12_5 E fl_X12_41 dX12_ordersAt_6 ?_
  refine ra_iload_n E dX12_ordersAt_9 rfl 1 rfl ?_
  refine ra_callIV (rest := []) E (c_X2_countOrdersAt _ (isCanal_of g2) _ _ _ h) (lq_X2 _) cv_X2_countOrdersAt ml_X12_141 (by decide) (lm ((isCanal_of g2).add (j := 0) (by decide))) (fun R => ⟨_, cel_canal tc ad (isCanal_of g2) R⟩) rfl rfl rfl (Nat.le_of_ble_eq_true rfl) ⟨Nat.le_of_ble_eq_true rfl, Nat.le_of_ble_eq_true rfl⟩ ⟨Nat.zero_le _, Nat.zero_le _⟩ dX12_ordersAt_10 (fun r4 M3 h => ?_)
  exact ra_iret E hr dX12_ordersAt_13 h
def f_X12_sailObstacle (p1 : Int32) (p2 : Int32) (M : TM) (K : Int32 → TM → Prop) : Prop := f_X12_requireBarge p1 M (fun M1 => f_X12_requirePlace p2 M1 (fun M2 => vp_in (M2 0 5) 11 ∧ f_X2_obstacleFor (27 + 61 * (M2 0 5).toNatClampNeg) p1 p2 M2 (fun r5 M4 => K r5 M4)))
set_option maxRecDepth 100000 in
set_option maxHeartbeats 4000000 in
theorem c_X12_sailObstacle {ad : Nat → Nat} (p1 : Int32) (p2 : Int32) (M : TM) (K : Int32 → TM → Prop) (h : f_X12_sailObstacle p1 p2 M K) : MI yX12_sailObstacle cX12_sailObstacle 3 (some .int) 3 ad [.ref (ad 0), .int p1, .int p2] M K := by
  refine MI_of RX12 rfl (by decide +kernel) (Nat.le_of_ble_eq_true rfl) (fun p l e s m below meth c D tc E hr => ?_)
  unfold f_X12_sailObstacle at h
  refine ra_aload_n E dX12_sailObstacle_0 rfl 0 rfl ?_
  refine ra_iload_n E dX12_sailObstacle_1 rfl 1 rfl ?_
  refine ra_callVV (rest := []) E (c_X12_requireBarge _ _ _ h) (lq_X12 _) cv_X12_requireBarge ml_X12_177 (by decide) (lm (by decide)) (fun R => ⟨_, cel_0 tc ad R⟩) rfl rfl rfl (Nat.le_of_ble_eq_true rfl) ⟨Nat.le_of_ble_eq_true rfl, Nat.le_of_ble_eq_true rfl⟩ ⟨Nat.zero_le _, Nat.zero_le _⟩ dX12_sailObstacle_2 (fun M1 h => ?_)
  refine ra_aload_n E dX12_sailObstacle_5 rfl 0 rfl ?_
  refine ra_iload_n E dX12_sailObstacle_6 rfl 2 rfl ?_
  refine ra_callVV (rest := []) E (c_X12_requirePlace _ _ _ h) (lq_X12 _) cv_X12_requirePlace ml_X12_130 (by decide) (lm (by decide)) (fun R => ⟨_, cel_0 tc ad R⟩) rfl rfl rfl (Nat.le_of_ble_eq_true rfl) ⟨Nat.le_of_ble_eq_true rfl, Nat.le_of_ble_eq_true rfl⟩ ⟨Nat.zero_le _, Nat.zero_le _⟩ dX12_sailObstacle_7 (fun M2 h => ?_)
  refine ra_aload_n E dX12_sailObstacle_10 rfl 0 rfl ?_
  obtain ⟨g3, h⟩ := h
  refine gf_X12_5 E fl_X12_41 dX12_sailObstacle_11 ?_
  refine ra_iload_n E dX12_sailObstacle_14 rfl 1 rfl ?_
  refine ra_iload_n E dX12_sailObstacle_15 rfl 2 rfl ?_
  refine ra_callIV (rest := []) E (c_X2_obstacleFor _ (isCanal_of g3) _ _ _ _ h) (lq_X2 _) cv_X2_obstacleFor ml_X12_251 (by decide) (lm ((isCanal_of g3).add (j := 0) (by decide))) (fun R => ⟨_, cel_canal tc ad (isCanal_of g3) R⟩) rfl rfl rfl (Nat.le_of_ble_eq_true rfl) ⟨Nat.le_of_ble_eq_true rfl, Nat.le_of_ble_eq_true rfl⟩ ⟨Nat.zero_le _, Nat.zero_le _⟩ dX12_sailObstacle_16 (fun r5 M4 h => ?_)
  exact ra_iret E hr dX12_sailObstacle_19 h
def f_X12_journeyTime (p1 : Int32) (p2 : Int32) (M : TM) (K : Int32 → TM → Prop) : Prop := f_X12_requirePlace p1 M (fun M1 => f_X12_requirePlace p2 M1 (fun M2 => vp_in (M2 0 5) 11 ∧ f_X2_timeBetween (27 + 61 * (M2 0 5).toNatClampNeg) p1 p2 M2 (fun r5 M4 => K r5 M4)))
set_option maxRecDepth 100000 in
set_option maxHeartbeats 4000000 in
theorem c_X12_journeyTime {ad : Nat → Nat} (p1 : Int32) (p2 : Int32) (M : TM) (K : Int32 → TM → Prop) (h : f_X12_journeyTime p1 p2 M K) : MI yX12_journeyTime cX12_journeyTime 3 (some .int) 2 ad [.ref (ad 0), .int p1, .int p2] M K := by
  refine MI_of RX12 rfl (by decide +kernel) (Nat.le_of_ble_eq_true rfl) (fun p l e s m below meth c D tc E hr => ?_)
  unfold f_X12_journeyTime at h
  refine ra_aload_n E dX12_journeyTime_0 rfl 0 rfl ?_
  refine ra_iload_n E dX12_journeyTime_1 rfl 1 rfl ?_
  refine ra_callVV (rest := []) E (c_X12_requirePlace _ _ _ h) (lq_X12 _) cv_X12_requirePlace ml_X12_130 (by decide) (lm (by decide)) (fun R => ⟨_, cel_0 tc ad R⟩) rfl rfl rfl (Nat.le_of_ble_eq_true rfl) ⟨Nat.le_of_ble_eq_true rfl, Nat.le_of_ble_eq_true rfl⟩ ⟨Nat.zero_le _, Nat.zero_le _⟩ dX12_journeyTime_2 (fun M1 h => ?_)
  refine ra_aload_n E dX12_journeyTime_5 rfl 0 rfl ?_
  refine ra_iload_n E dX12_journeyTime_6 rfl 2 rfl ?_
  refine ra_callVV (rest := []) E (c_X12_requirePlace _ _ _ h) (lq_X12 _) cv_X12_requirePlace ml_X12_130 (by decide) (lm (by decide)) (fun R => ⟨_, cel_0 tc ad R⟩) rfl rfl rfl (Nat.le_of_ble_eq_true rfl) ⟨Nat.le_of_ble_eq_true rfl, Nat.le_of_ble_eq_true rfl⟩ ⟨Nat.zero_le _, Nat.zero_le _⟩ dX12_journeyTime_7 (fun M2 h => ?_)
  refine ra_aload_n E dX12_journeyTime_10 rfl 0 rfl ?_
  obtain ⟨g3, h⟩ := h
  refine gf_X12_5 E fl_X12_41 dX12_journeyTime_11 ?_
  refine ra_iload_n E dX12_journeyTime_14 rfl 1 rfl ?_
  refine ra_iload_n E dX12_journeyTime_15 rfl 2 rfl ?_
  refine ra_callIV (rest := []) E (c_X2_timeBetween _ (isCanal_of g3) _ _ _ _ h) (lq_X2 _) cv_X2_timeBetween ml_X12_255 (by decide) (lm ((isCanal_of g3).add (j := 0) (by decide))) (fun R => ⟨_, cel_canal tc ad (isCanal_of g3) R⟩) rfl rfl rfl (Nat.le_of_ble_eq_true rfl) ⟨Nat.le_of_ble_eq_true rfl, Nat.le_of_ble_eq_true rfl⟩ ⟨Nat.zero_le _, Nat.zero_le _⟩ dX12_journeyTime_16 (fun r5 M4 h => ?_)
  exact ra_iret E hr dX12_journeyTime_19 h
def f_X12_writeCanal_L7  (K : Int32 → TM → Prop) : Nat → Int32 → TM → Prop
  | 0, _, _ => False
  | n + 1, x1, M => vp_in (M 0 5) 11 ∧ (((M (27 + 61 * (M 0 5).toNatClampNeg) 0) ≤ x1 → K (M 0 8) M) ∧ (¬ (M (27 + 61 * (M 0 5).toNatClampNeg) 0) ≤ x1 → ((x1 ≤ 0 → vp_in (M 0 5) 11 ∧ f_X2_signOfPlace (27 + 61 * (M 0 5).toNatClampNeg) x1 M (fun r7 M6 => f_X12_writeSign r7 M6 (fun M9 => f_X12_writeCanal_L7 K n (x1 + 1) M9))) ∧ (¬ x1 ≤ 0 → vp_in (M 0 5) 11 ∧ f_X2_signOfSection (27 + 61 * (M 0 5).toNatClampNeg) (x1 - (1 : Int32)) M (fun r12 M11 => f_X12_writeSign r12 M11 (fun M14 => vp_in (M14 0 5) 11 ∧ f_X2_signOfPlace (27 + 61 * (M14 0 5).toNatClampNeg) x1 M14 (fun r17 M16 => f_X12_writeSign r17 M16 (fun M19 => f_X12_writeCanal_L7 K n (x1 + 1) M19))))))))
set_option maxRecDepth 100000 in
set_option maxHeartbeats 4000000 in
theorem l_X12_writeCanal_L7 {p : Program} {l : Launch} {e : Env} {s : State} {m : MethodId} {args : Array Value} {below : List Frame} {meth : Method} {c : Code} {D : va_G} {tc : Nat → ClassId} {ad : Nat → Nat}  {K : Int32 → TM → Prop} (E : Ev p s m args meth c D tc ad RX12 cX12_writeCanal 2) (hr : meth.sig.returnType = (some .int)) : ∀ (n : Nat) (x1 : Int32) (M : TM) , f_X12_writeCanal_L7  K n x1 M → Wa p l e (rmD 3) s m args below meth c 0 0 (MQ below (va_Qi K (EndW D tc ad) (A0 ad s.heap.size)) args s 0 0 (A0 ad s.heap.size)) D tc ad 2 M 7 [(0, .ref (ad 0)), (1, .int x1)] [] := by
  intro n
  induction n with
  | zero => intro x1 M  h; exact h.elim
  | succ n ih =>
    intro x1 M  h
    unfold f_X12_writeCanal_L7 at h
    refine ra_iload_n E dX12_writeCanal_7 rfl 1 rfl ?_
    refine ra_aload_n E dX12_writeCanal_8 rfl 0 rfl ?_
    obtain ⟨g2, h⟩ := h
    refine gf_X12_5 E fl_X12_41 dX12_writeCanal_9 ?_
    refine gf_X2_0 E (isCanal_of g2) fl_X12_112 dX12_writeCanal_12 ?_
    refine ra_icmp_ge (tgt := 54) E dX12_writeCanal_15 (by decide) (fun q3 => ?_) (fun q3 => ?_)
    · replace h := h.1 q3
      refine ra_aload_n E dX12_writeCanal_54 rfl 0 rfl ?_
      refine gf_X12_8 E fl_X12_51 dX12_writeCanal_55 ?_
      exact ra_iret E hr dX12_writeCanal_58 h
    · replace h := h.2 q3
      refine ra_iload_n E dX12_writeCanal_18 rfl 1 rfl ?_
      refine ra_if_le (tgt := 36) E dX12_writeCanal_19 (by decide) (fun q4 => ?_) (fun q4 => ?_)
      · replace h := h.1 q4
        refine ra_aload_n E dX12_writeCanal_36 rfl 0 rfl ?_
        refine ra_aload_n E dX12_writeCanal_37 rfl 0 rfl ?_
        obtain ⟨g5, h⟩ := h
        refine gf_X12_5 E fl_X12_41 dX12_writeCanal_38 ?_
        refine ra_iload_n E dX12_writeCanal_41 rfl 1 rfl ?_
        refine ra_callIV (rest := [_]) E (c_X2_signOfPlace _ (isCanal_of g5) _ _ _ h) (lq_X2 _) cv_X2_signOfPlace ml_X12_350 (by decide) (lm ((isCanal_of g5).add (j := 0) (by decide))) (fun R => ⟨_, cel_canal tc ad (isCanal_of g5) R⟩) rfl rfl rfl (Nat.le_of_ble_eq_true rfl) ⟨Nat.le_of_ble_eq_true rfl, Nat.le_of_ble_eq_true rfl⟩ ⟨Nat.zero_le _, Nat.zero_le _⟩ dX12_writeCanal_42 (fun r7 M6 h => ?_)
        obtain ⟨b8, h⟩ := h
        refine ra_callVV (rest := []) E (c_X12_writeSign _ _ _ h) (lq_X12 _) cv_X12_writeSign ml_X12_346 (by decide) (lm (by decide)) (fun R => ⟨_, cel_0 tc ad R⟩) rfl rfl rfl (Nat.le_of_ble_eq_true rfl) ⟨Nat.le_of_ble_eq_true rfl, Nat.le_of_ble_eq_true rfl⟩ ⟨Nat.zero_le _, Nat.zero_le _⟩ dX12_writeCanal_45 (fun M9 h => ?_)
        refine ra_iinc1 (L' := [(1, _), (0, _)]) E dX12_writeCanal_48 1 rfl (by decide) rfl ?_
        refine ra_goto (tgt := 7) E dX12_writeCanal_51 (by decide) ?_
        exact ra_sub (L' := [(0, _), (1, _)]) [1, 0] rfl (ih _ _ h)
      · replace h := h.2 q4
        refine ra_aload_n E dX12_writeCanal_22 rfl 0 rfl ?_
        refine ra_aload_n E dX12_writeCanal_23 rfl 0 rfl ?_
        obtain ⟨g10, h⟩ := h
        refine gf_X12_5 E fl_X12_41 dX12_writeCanal_24 ?_
        refine ra_iload_n E dX12_writeCanal_27 rfl 1 rfl ?_
        refine ra_iconst E dX12_writeCanal_28 ki_1 ?_
        refine ra_isub E dX12_writeCanal_29 ?_
        refine ra_callIV (rest := [_]) E (c_X2_signOfSection _ (isCanal_of g10) _ _ _ h) (lq_X2 _) cv_X2_signOfSection ml_X12_342 (by decide) (lm ((isCanal_of g10).add (j := 0) (by decide))) (fun R => ⟨_, cel_canal tc ad (isCanal_of g10) R⟩) rfl rfl rfl (Nat.le_of_ble_eq_true rfl) ⟨Nat.le_of_ble_eq_true rfl, Nat.le_of_ble_eq_true rfl⟩ ⟨Nat.zero_le _, Nat.zero_le _⟩ dX12_writeCanal_30 (fun r12 M11 h => ?_)
        obtain ⟨b13, h⟩ := h
        refine ra_callVV (rest := []) E (c_X12_writeSign _ _ _ h) (lq_X12 _) cv_X12_writeSign ml_X12_346 (by decide) (lm (by decide)) (fun R => ⟨_, cel_0 tc ad R⟩) rfl rfl rfl (Nat.le_of_ble_eq_true rfl) ⟨Nat.le_of_ble_eq_true rfl, Nat.le_of_ble_eq_true rfl⟩ ⟨Nat.zero_le _, Nat.zero_le _⟩ dX12_writeCanal_33 (fun M14 h => ?_)
        refine ra_aload_n E dX12_writeCanal_36 rfl 0 rfl ?_
        refine ra_aload_n E dX12_writeCanal_37 rfl 0 rfl ?_
        obtain ⟨g15, h⟩ := h
        refine gf_X12_5 E fl_X12_41 dX12_writeCanal_38 ?_
        refine ra_iload_n E dX12_writeCanal_41 rfl 1 rfl ?_
        refine ra_callIV (rest := [_]) E (c_X2_signOfPlace _ (isCanal_of g15) _ _ _ h) (lq_X2 _) cv_X2_signOfPlace ml_X12_350 (by decide) (lm ((isCanal_of g15).add (j := 0) (by decide))) (fun R => ⟨_, cel_canal tc ad (isCanal_of g15) R⟩) rfl rfl rfl (Nat.le_of_ble_eq_true rfl) ⟨Nat.le_of_ble_eq_true rfl, Nat.le_of_ble_eq_true rfl⟩ ⟨Nat.zero_le _, Nat.zero_le _⟩ dX12_writeCanal_42 (fun r17 M16 h => ?_)
        obtain ⟨b18, h⟩ := h
        refine ra_callVV (rest := []) E (c_X12_writeSign _ _ _ h) (lq_X12 _) cv_X12_writeSign ml_X12_346 (by decide) (lm (by decide)) (fun R => ⟨_, cel_0 tc ad R⟩) rfl rfl rfl (Nat.le_of_ble_eq_true rfl) ⟨Nat.le_of_ble_eq_true rfl, Nat.le_of_ble_eq_true rfl⟩ ⟨Nat.zero_le _, Nat.zero_le _⟩ dX12_writeCanal_45 (fun M19 h => ?_)
        refine ra_iinc1 (L' := [(1, _), (0, _)]) E dX12_writeCanal_48 1 rfl (by decide) rfl ?_
        refine ra_goto (tgt := 7) E dX12_writeCanal_51 (by decide) ?_
        exact ra_sub (L' := [(0, _), (1, _)]) [1, 0] rfl (ih _ _ h)
def f_X12_writeCanal  (M : TM) (K : Int32 → TM → Prop) : Prop := ∀ M1, M1 = u2 M 0 8 (0 : Int32) → ∃ n7, f_X12_writeCanal_L7 K n7 (0 : Int32) M1
set_option maxRecDepth 100000 in
set_option maxHeartbeats 4000000 in
theorem c_X12_writeCanal {ad : Nat → Nat}  (M : TM) (K : Int32 → TM → Prop) (h : f_X12_writeCanal  M K) : MI yX12_writeCanal cX12_writeCanal 2 (some .int) 3 ad [.ref (ad 0)] M K := by
  refine MI_of RX12 rfl (by decide +kernel) (Nat.le_of_ble_eq_true rfl) (fun p l e s m below meth c D tc E hr => ?_)
  unfold f_X12_writeCanal at h
  refine ra_aload_n E dX12_writeCanal_0 rfl 0 rfl ?_
  refine ra_iconst E dX12_writeCanal_1 ki_0 ?_
  refine pf_X12_8 E fl_X12_51 dX12_writeCanal_2 ?_
  replace h := h _ rfl
  refine ra_iconst E dX12_writeCanal_5 ki_0 ?_
  refine ra_istore_n (L' := [(1, _), (0, _)]) E dX12_writeCanal_6 rfl (by decide) rfl ?_
  obtain ⟨n20, h⟩ := h
  exact ra_sub (L' := [(0, _), (1, _)]) [1, 0] rfl (l_X12_writeCanal_L7 E hr n20 _ _ h)
def f_X12_undo_L15  (K : Int32 → TM → Prop) (z0 : Int32) (M : TM) : Prop := f_X12_requireState z0 M (fun M2 => vp_in (M2 0 5) 11 ∧ f_X5_takeBack (27 + 61 * (M2 0 5).toNatClampNeg) M2 (fun M4 => K (M4 25 2) M4))
set_option maxRecDepth 100000 in
set_option maxHeartbeats 4000000 in
theorem l_X12_undo_L15 {p : Program} {l : Launch} {e : Env} {s : State} {m : MethodId} {args : Array Value} {below : List Frame} {meth : Method} {c : Code} {D : va_G} {tc : Nat → ClassId} {ad : Nat → Nat}  {K : Int32 → TM → Prop} (E : Ev p s m args meth c D tc ad RX12 cX12_undo 1) (hr : meth.sig.returnType = (some .int)) : ∀ (z0 : Int32) (M : TM) , f_X12_undo_L15  K z0 M → Wa p l e (rmD 4) s m args below meth c 0 0 (MQ below (va_Qi K (EndW D tc ad) (A0 ad s.heap.size)) args s 0 0 (A0 ad s.heap.size)) D tc ad 1 M 15 [(0, .ref (ad 0))] [.int z0] := by
  intro z0 M  h
  unfold f_X12_undo_L15 at h
  refine ra_callVS (rest := []) E (c_X12_requireState _ _ _ h) (lq_X12 _) ct_X12_requireState ml_X12_285 (by decide) rfl rfl (Nat.le_of_ble_eq_true rfl) ⟨Nat.le_of_ble_eq_true rfl, Nat.le_of_ble_eq_true rfl⟩ ⟨Nat.zero_le _, Nat.zero_le _⟩ dX12_undo_15 (fun M2 h => ?_)
  refine ra_aload_n E dX12_undo_18 rfl 0 rfl ?_
  refine gf_X12_2 E fl_X12_26 dX12_undo_19 ?_
  refine ra_aload_n E dX12_undo_22 rfl 0 rfl ?_
  obtain ⟨g3, h⟩ := h
  refine gf_X12_5 E fl_X12_41 dX12_undo_23 ?_
  refine ra_callVV (rest := []) E (c_X5_takeBack _ (isCanal_of g3) _ _ h) (lq_X5 _) cv_X5_takeBack ml_X12_362 (by decide) (lm (by decide)) (fun R => ⟨_, cel_25 tc ad R⟩) rfl rfl rfl (Nat.le_of_ble_eq_true rfl) ⟨Nat.le_of_ble_eq_true rfl, Nat.le_of_ble_eq_true rfl⟩ ⟨Nat.zero_le _, Nat.zero_le _⟩ dX12_undo_26 (fun M4 h => ?_)
  refine ra_aload_n E dX12_undo_29 rfl 0 rfl ?_
  refine gf_X12_2 E fl_X12_26 dX12_undo_30 ?_
  refine gf_X5_2 E fl_X12_359 dX12_undo_33 ?_
  exact ra_iret E hr dX12_undo_36 h
def f_X12_undo  (M : TM) (K : Int32 → TM → Prop) : Prop := (((M 25 2) ≤ 0 → f_X12_undo_L15 K (0 : Int32) M) ∧ (¬ (M 25 2) ≤ 0 → f_X12_undo_L15 K (1 : Int32) M))
set_option maxRecDepth 100000 in
set_option maxHeartbeats 4000000 in
theorem c_X12_undo {ad : Nat → Nat}  (M : TM) (K : Int32 → TM → Prop) (h : f_X12_undo  M K) : MI yX12_undo cX12_undo 1 (some .int) 4 ad [.ref (ad 0)] M K := by
  refine MI_of RX12 rfl (by decide +kernel) (Nat.le_of_ble_eq_true rfl) (fun p l e s m below meth c D tc E hr => ?_)
  unfold f_X12_undo at h
  refine ra_aload_n E dX12_undo_0 rfl 0 rfl ?_
  refine gf_X12_2 E fl_X12_26 dX12_undo_1 ?_
  refine gf_X5_2 E fl_X12_359 dX12_undo_4 ?_
  refine ra_if_le (tgt := 14) E dX12_undo_7 (by decide) (fun q1 => ?_) (fun q1 => ?_)
  · replace h := h.1 q1
    refine ra_iconst E dX12_undo_14 ki_0 ?_
    exact ra_sub (L' := [(0, _)]) [0] rfl (l_X12_undo_L15 E hr _ _ h)
  · replace h := h.2 q1
    refine ra_iconst E dX12_undo_10 ki_1 ?_
    refine ra_goto (tgt := 15) E dX12_undo_11 (by decide) ?_
    exact ra_sub (L' := [(0, _)]) [0] rfl (l_X12_undo_L15 E hr _ _ h)
def f_X12_saveSnapshot  (M : TM) (K : TM → Prop) : Prop := vp_in (M 0 5) 11 ∧ f_X2_copyFrom 515 (27 + 61 * (M 0 5).toNatClampNeg) M (fun M2 => ∀ M3, M3 = u2 M2 0 4 (1 : Int32) → K M3)
set_option maxRecDepth 100000 in
set_option maxHeartbeats 4000000 in
theorem c_X12_saveSnapshot {ad : Nat → Nat}  (M : TM) (K : TM → Prop) (h : f_X12_saveSnapshot  M K) : MV yX12_saveSnapshot cX12_saveSnapshot 1 3 ad [.ref (ad 0)] M K := by
  refine MV_of RX12 rfl (by decide +kernel) (Nat.le_of_ble_eq_true rfl) (fun p l e s m below meth c D tc E hr => ?_)
  unfold f_X12_saveSnapshot at h
  refine ra_aload_n E dX12_saveSnapshot_0 rfl 0 rfl ?_
  refine gf_X12_3 E fl_X12_33 dX12_saveSnapshot_1 ?_
  refine ra_aload_n E dX12_saveSnapshot_4 rfl 0 rfl ?_
  obtain ⟨g1, h⟩ := h
  refine gf_X12_5 E fl_X12_41 dX12_saveSnapshot_5 ?_
  refine ra_callVV (rest := []) E (c_X2_copyFrom _ isCanal_515 _ (isCanal_of g1) _ _ h) (lq_X2 _) cv_X2_copyFrom ml_X12_258 (by decide) (lm (isCanal_515.add (j := 0) (by decide))) (fun R => ⟨_, cel_canal tc ad isCanal_515 R⟩) rfl rfl rfl (Nat.le_of_ble_eq_true rfl) ⟨Nat.le_of_ble_eq_true rfl, Nat.le_of_ble_eq_true rfl⟩ ⟨Nat.zero_le _, Nat.zero_le _⟩ dX12_saveSnapshot_8 (fun M2 h => ?_)
  refine ra_aload_n E dX12_saveSnapshot_11 rfl 0 rfl ?_
  refine ra_iconst E dX12_saveSnapshot_12 ki_1 ?_
  refine pf_X12_4 E fl_X12_37 (by decide) dX12_saveSnapshot_13 ?_
  replace h := h _ rfl
  exact ra_vret E hr dX12_saveSnapshot_16 h
def f_X12_restoreSnapshot  (M : TM) (K : Int32 → TM → Prop) : Prop := f_X12_requireState (bz (M 0 4)) M (fun M1 => vp_in (M1 0 5) 11 ∧ f_X2_copyFrom (27 + 61 * (M1 0 5).toNatClampNeg) 515 M1 (fun M3 => f_X5_clear M3 (fun M4 => vp_in (M4 0 5) 11 ∧ K (M4 (27 + 61 * (M4 0 5).toNatClampNeg) 8) M4)))
set_option maxRecDepth 100000 in
set_option maxHeartbeats 4000000 in
theorem c_X12_restoreSnapshot {ad : Nat → Nat}  (M : TM) (K : Int32 → TM → Prop) (h : f_X12_restoreSnapshot  M K) : MI yX12_restoreSnapshot cX12_restoreSnapshot 1 (some .int) 3 ad [.ref (ad 0)] M K := by
  refine MI_of RX12 rfl (by decide +kernel) (Nat.le_of_ble_eq_true rfl) (fun p l e s m below meth c D tc E hr => ?_)
  unfold f_X12_restoreSnapshot at h
  refine ra_aload_n E dX12_restoreSnapshot_0 rfl 0 rfl ?_
  refine gf_X12_4 E fl_X12_37 dX12_restoreSnapshot_1 ?_
  refine ra_callVS (rest := []) E (c_X12_requireState _ _ _ h) (lq_X12 _) ct_X12_requireState ml_X12_285 (by decide) rfl rfl (Nat.le_of_ble_eq_true rfl) ⟨Nat.le_of_ble_eq_true rfl, Nat.le_of_ble_eq_true rfl⟩ ⟨Nat.zero_le _, Nat.zero_le _⟩ dX12_restoreSnapshot_4 (fun M1 h => ?_)
  refine ra_aload_n E dX12_restoreSnapshot_7 rfl 0 rfl ?_
  obtain ⟨g2, h⟩ := h
  refine gf_X12_5 E fl_X12_41 dX12_restoreSnapshot_8 ?_
  refine ra_aload_n E dX12_restoreSnapshot_11 rfl 0 rfl ?_
  refine gf_X12_3 E fl_X12_33 dX12_restoreSnapshot_12 ?_
  refine ra_callVV (rest := []) E (c_X2_copyFrom _ (isCanal_of g2) _ isCanal_515 _ _ h) (lq_X2 _) cv_X2_copyFrom ml_X12_258 (by decide) (lm ((isCanal_of g2).add (j := 0) (by decide))) (fun R => ⟨_, cel_canal tc ad (isCanal_of g2) R⟩) rfl rfl rfl (Nat.le_of_ble_eq_true rfl) ⟨Nat.le_of_ble_eq_true rfl, Nat.le_of_ble_eq_true rfl⟩ ⟨Nat.zero_le _, Nat.zero_le _⟩ dX12_restoreSnapshot_15 (fun M3 h => ?_)
  refine ra_aload_n E dX12_restoreSnapshot_18 rfl 0 rfl ?_
  refine gf_X12_2 E fl_X12_26 dX12_restoreSnapshot_19 ?_
  refine ra_callVV (rest := []) E (c_X5_clear _ _ h) (lq_X5 _) cv_X5_clear ml_X12_97 (by decide) (lm (by decide)) (fun R => ⟨_, cel_25 tc ad R⟩) rfl rfl rfl (Nat.le_of_ble_eq_true rfl) ⟨Nat.le_of_ble_eq_true rfl, Nat.le_of_ble_eq_true rfl⟩ ⟨Nat.zero_le _, Nat.zero_le _⟩ dX12_restoreSnapshot_22 (fun M4 h => ?_)
  refine ra_aload_n E dX12_restoreSnapshot_25 rfl 0 rfl ?_
  obtain ⟨g5, h⟩ := h
  refine gf_X12_5 E fl_X12_41 dX12_restoreSnapshot_26 ?_
  refine gf_X2_8 E (isCanal_of g5) fl_X12_109 dX12_restoreSnapshot_29 ?_
  exact ra_iret E hr dX12_restoreSnapshot_32 h
def f_X12_bargeAt (p1 : Int32) (M : TM) (K : Option Nat → TM → Prop) : Prop := f_X12_requireBarge p1 M (fun M1 => vp_in (M1 0 5) 11 ∧ vp_in p1 5 ∧ K (some ((27 + 61 * (M1 0 5).toNatClampNeg) + 21 + 2 * p1.toNatClampNeg)) M1)
set_option maxRecDepth 100000 in
set_option maxHeartbeats 4000000 in
theorem c_X12_bargeAt {ad : Nat → Nat} (p1 : Int32) (M : TM) (K : Option Nat → TM → Prop) (h : f_X12_bargeAt p1 M K) : MA yX12_bargeAt cX12_bargeAt 2 (some (.object "NoodleCanal$Barge")) 2 ad [.ref (ad 0), .int p1] M K := by
  refine MA_of RX12 rfl (by decide +kernel) (Nat.le_of_ble_eq_true rfl) (fun p l e s m below meth c D tc E hr => ?_)
  unfold f_X12_bargeAt at h
  refine ra_aload_n E dX12_bargeAt_0 rfl 0 rfl ?_
  refine ra_iload_n E dX12_bargeAt_1 rfl 1 rfl ?_
  refine ra_callVV (rest := []) E (c_X12_requireBarge _ _ _ h) (lq_X12 _) cv_X12_requireBarge ml_X12_177 (by decide) (lm (by decide)) (fun R => ⟨_, cel_0 tc ad R⟩) rfl rfl rfl (Nat.le_of_ble_eq_true rfl) ⟨Nat.le_of_ble_eq_true rfl, Nat.le_of_ble_eq_true rfl⟩ ⟨Nat.zero_le _, Nat.zero_le _⟩ dX12_bargeAt_2 (fun M1 h => ?_)
  refine ra_aload_n E dX12_bargeAt_5 rfl 0 rfl ?_
  obtain ⟨g2, h⟩ := h
  refine gf_X12_5 E fl_X12_41 dX12_bargeAt_6 ?_
  refine gf_X2_5 E (isCanal_of g2) fl_X12_374 dX12_bargeAt_9 ?_
  refine ra_iload_n E dX12_bargeAt_12 rfl 1 rfl ?_
  obtain ⟨g3, h⟩ := h
  refine ra_aald E (lm ((isCanal_of g2).add (by decide))) (cel_bars tc ad (isCanal_of g2)) rfl g3 dX12_bargeAt_13 ?_
  exact ra_aret (o := (some ((27 + 61 * (M1 0 5).toNatClampNeg) + 21 + 2 * p1.toNatClampNeg))) E hr dX12_bargeAt_14 h
def f_X12_orderAt (p1 : Int32) (M : TM) (K : Option Nat → TM → Prop) : Prop := f_X12_requireOrder p1 M (fun M1 => vp_in (M1 0 5) 11 ∧ vp_in p1 30 ∧ K (some ((27 + 61 * (M1 0 5).toNatClampNeg) + 31 + p1.toNatClampNeg)) M1)
set_option maxRecDepth 100000 in
set_option maxHeartbeats 4000000 in
theorem c_X12_orderAt {ad : Nat → Nat} (p1 : Int32) (M : TM) (K : Option Nat → TM → Prop) (h : f_X12_orderAt p1 M K) : MA yX12_orderAt cX12_orderAt 2 (some (.object "NoodleCanal$Order")) 2 ad [.ref (ad 0), .int p1] M K := by
  refine MA_of RX12 rfl (by decide +kernel) (Nat.le_of_ble_eq_true rfl) (fun p l e s m below meth c D tc E hr => ?_)
  unfold f_X12_orderAt at h
  refine ra_aload_n E dX12_orderAt_0 rfl 0 rfl ?_
  refine ra_iload_n E dX12_orderAt_1 rfl 1 rfl ?_
  refine ra_callVV (rest := []) E (c_X12_requireOrder _ _ _ h) (lq_X12 _) cv_X12_requireOrder ml_X12_268 (by decide) (lm (by decide)) (fun R => ⟨_, cel_0 tc ad R⟩) rfl rfl rfl (Nat.le_of_ble_eq_true rfl) ⟨Nat.le_of_ble_eq_true rfl, Nat.le_of_ble_eq_true rfl⟩ ⟨Nat.zero_le _, Nat.zero_le _⟩ dX12_orderAt_2 (fun M1 h => ?_)
  refine ra_aload_n E dX12_orderAt_5 rfl 0 rfl ?_
  obtain ⟨g2, h⟩ := h
  refine gf_X12_5 E fl_X12_41 dX12_orderAt_6 ?_
  refine gf_X2_7 E (isCanal_of g2) fl_X12_378 dX12_orderAt_9 ?_
  refine ra_iload_n E dX12_orderAt_12 rfl 1 rfl ?_
  obtain ⟨g3, h⟩ := h
  refine ra_aald E (lm ((isCanal_of g2).add (by decide))) (cel_ords tc ad (isCanal_of g2)) rfl g3 dX12_orderAt_13 ?_
  exact ra_aret (o := (some ((27 + 61 * (M1 0 5).toNatClampNeg) + 31 + p1.toNatClampNeg))) E hr dX12_orderAt_14 h
def f_J0_length_8abf5 (a0 : Nat) (M : TM) (K : Int32 → TM → Prop) : Prop := f_J0_coder_7d493 a0 M (fun r2 M1 => K ((nI (lenS.getD a0 0)) >>> (r2 &&& 31)) M1)
set_option maxRecDepth 100000 in
set_option maxHeartbeats 4000000 in
theorem c_J0_length_8abf5 {ad : Nat → Nat} (a0 : Nat) (h0 : a0 < nS) (M : TM) (K : Int32 → TM → Prop) (h : f_J0_length_8abf5 a0 M K) : MI yJ0_length_8abf5 cJ0_length_8abf5 1 (some .int) 1 ad [.ref (ad (2200 + a0))] M K := by
  refine MI_of RJ0 rfl (by decide +kernel) (Nat.le_of_ble_eq_true rfl) (fun p l e s m below meth c D tc E hr => ?_)
  unfold f_J0_length_8abf5 at h
  refine ra_aload_n E dJ0_length_8abf5_0 rfl 0 rfl ?_
  refine gf_sval E h0 fl_J0_9 dJ0_length_8abf5_1 ?_
  refine al_sval E h0 dJ0_length_8abf5_4 ?_
  refine ra_aload_n E dJ0_length_8abf5_5 rfl 0 rfl ?_
  refine ra_callIR (rest := [_]) E (c_J0_coder_7d493 _ h0 _ _ h) (lq_J0 _) cv_J0_coder_7d493 ml_J0_335 (by decide) (rv_str E h0) rfl rfl (Nat.le_of_ble_eq_true rfl) ⟨Nat.le_of_ble_eq_true rfl, Nat.le_of_ble_eq_true rfl⟩ ⟨Nat.zero_le _, Nat.zero_le _⟩ dJ0_length_8abf5_6 (fun r2 M1 h => ?_)
  refine ra_ishr E dJ0_length_8abf5_9 ?_
  exact ra_iret E hr dJ0_length_8abf5_10 h
def f_J0_checkIndex_df160 (p0 : Int32) (p1 : Int32) (M : TM) (K : TM → Prop) : Prop := ∀ (v1 : Value), (v1 = .null ∨ ∃ z, v1 = .ref z) → f_J3_checkIndex_8e157 p0 p1 v1 M (fun r4 M3 => K M3)
set_option maxRecDepth 100000 in
set_option maxHeartbeats 4000000 in
theorem c_J0_checkIndex_df160 {ad : Nat → Nat} (p0 : Int32) (p1 : Int32) (M : TM) (K : TM → Prop) (h : f_J0_checkIndex_df160 p0 p1 M K) : MV yJ0_checkIndex_df160 cJ0_checkIndex_df160 2 1 ad [.int p0, .int p1] M K := by
  refine MV_of RJ0 rfl (by decide +kernel) (Nat.le_of_ble_eq_true rfl) (fun p l e s m below meth c D tc E hr => ?_)
  unfold f_J0_checkIndex_df160 at h
  refine ra_iload_n E dJ0_checkIndex_df160_0 rfl 0 rfl ?_
  refine ra_iload_n E dJ0_checkIndex_df160_1 rfl 1 rfl ?_
  refine gs_siob E fl_J0_1053 dJ0_checkIndex_df160_2 (fun v1 k2 => ?_)
  replace h := h v1 k2
  refine ra_callIS (rest := []) E (c_J3_checkIndex_8e157 _ _ _ k2 _ _ h) (lq_J3 _) ct_J3_checkIndex_8e157 ml_J0_1059 (by decide) rfl rfl (Nat.le_of_ble_eq_true rfl) ⟨Nat.le_of_ble_eq_true rfl, Nat.le_of_ble_eq_true rfl⟩ ⟨Nat.zero_le _, Nat.zero_le _⟩ dJ0_checkIndex_df160_5 (fun r4 M3 h => ?_)
  refine ra_pop E dJ0_checkIndex_df160_8 rfl ?_
  exact ra_vret E hr dJ0_checkIndex_df160_9 h
def f_J1_charAt_3b067 (a0 : Nat) (p1 : Int32) (M : TM) (K : Int32 → TM → Prop) : Prop := f_J0_checkIndex_df160 p1 (nI (lenS.getD a0 0)) M (fun M1 => vp_in p1 (lenS.getD a0 0) ∧ K (((((bytS.getD a0 []).getD p1.toNatClampNeg 0) &&& (255 : Int32)).toUInt32 % 65536).toInt32) M1)
set_option maxRecDepth 100000 in
set_option maxHeartbeats 4000000 in
theorem c_J1_charAt_3b067 {ad : Nat → Nat} (a0 : Nat) (h0 : a0 < nS) (p1 : Int32) (M : TM) (K : Int32 → TM → Prop) (h : f_J1_charAt_3b067 a0 p1 M K) : MI yJ1_charAt_3b067 cJ1_charAt_3b067 2 (some .char) 2 ad [.ref (ad (2300 + a0)), .int p1] M (fun r M' => narrow .char (.int r) = .int r ∧ K r M') := by
  refine MI_of RJ1 rfl (by decide +kernel) (Nat.le_of_ble_eq_true rfl) (fun p l e s m below meth c D tc E hr => ?_)
  unfold f_J1_charAt_3b067 at h
  refine ra_iload_n E dJ1_charAt_3b067_0 rfl 1 rfl ?_
  refine ra_aload_n E dJ1_charAt_3b067_1 rfl 0 rfl ?_
  refine al_sval E h0 dJ1_charAt_3b067_2 ?_
  refine ra_callVS (rest := []) E (c_J0_checkIndex_df160 _ _ _ _ h) (lq_J0 _) ct_J0_checkIndex_df160 ml_J1_9 (by decide) rfl rfl (Nat.le_of_ble_eq_true rfl) ⟨Nat.le_of_ble_eq_true rfl, Nat.le_of_ble_eq_true rfl⟩ ⟨Nat.zero_le _, Nat.zero_le _⟩ dJ1_charAt_3b067_3 (fun M1 h => ?_)
  refine ra_aload_n E dJ1_charAt_3b067_6 rfl 0 rfl ?_
  refine ra_iload_n E dJ1_charAt_3b067_7 rfl 1 rfl ?_
  obtain ⟨g2, h⟩ := h
  refine ba_sval E h0 g2 dJ1_charAt_3b067_8 ?_
  refine ra_sipush E dJ1_charAt_3b067_9 ks_255 ?_
  refine ra_iand E dJ1_charAt_3b067_12 ?_
  refine ra_i2c E dJ1_charAt_3b067_13 rfl ?_
  exact ra_zret E hr (pk_nc _) dJ1_charAt_3b067_14 ⟨pk_nc _, h⟩
def f_L_add_L65 (p2 : Int32) (K : TM → Prop) : Nat → Int32 → TM → Prop
  | 0, _, _ => False
  | n + 1, x3, M => (((5 : Int32) ≤ x3 → K M) ∧ (¬ (5 : Int32) ≤ x3 → vp_in x3 6 ∧ ∀ M20, M20 = u2 M 699 x3.toNatClampNeg (0 : Int32) → f_L_add_L65 p2 K n (x3 + 1) M20))
set_option maxRecDepth 100000 in
set_option maxHeartbeats 4000000 in
theorem l_L_add_L65 {p : Program} {l : Launch} {e : Env} {s : State} {m : MethodId} {args : Array Value} {below : List Frame} {meth : Method} {c : Code} {D : va_G} {tc : Nat → ClassId} {ad : Nat → Nat} (p2 : Int32) {K : TM → Prop} (E : Ev p s m args meth c D tc ad RL cL_add 4) (hr : meth.sig.returnType = none) : ∀ (n : Nat) (x3 : Int32) (M : TM) , f_L_add_L65 p2 K n x3 M → Wa p l e (rmD 3) s m args below meth c 0 0 (MQ below (va_Qv K (EndW D tc ad) (A0 ad s.heap.size)) args s 0 0 (A0 ad s.heap.size)) D tc ad 4 M 65 [(1, .ref (ad 699)), (3, .int x3)] [] := by
  intro n
  induction n with
  | zero => intro x3 M  h; exact h.elim
  | succ n ih =>
    intro x3 M  h
    unfold f_L_add_L65 at h
    refine ra_iload_n E dL_add_65 rfl 1 rfl ?_
    refine ra_iconst E dL_add_66 ki_5 ?_
    refine ra_icmp_ge (tgt := 80) E dL_add_67 (by decide) (fun q18 => ?_) (fun q18 => ?_)
    · replace h := h.1 q18
      exact ra_vret E hr dL_add_80 h
    · replace h := h.2 q18
      refine ra_aload_n E dL_add_70 rfl 0 rfl ?_
      refine ra_iload_n E dL_add_71 rfl 1 rfl ?_
      refine ra_iconst E dL_add_72 ki_0 ?_
      obtain ⟨g19, h⟩ := h
      refine ra_iast E (lmL (by decide)) (cel_699 tc ad) g19 dL_add_73 ?_
      replace h := h _ rfl
      refine ra_iinc1 (L' := [(3, _), (1, _)]) E dL_add_74 1 rfl (by decide) rfl ?_
      refine ra_goto (tgt := 65) E dL_add_77 (by decide) ?_
      exact ra_sub (L' := [(1, _), (3, _)]) [1, 0] rfl (ih _ _ h)
def f_L_add (p2 : Int32) (M : TM) (K : TM → Prop) : Prop := vp_in (5 : Int32) 6 ∧ vp_in (((M 699 (5 : Int32).toNatClampNeg) - (M 699 (5 : Int32).toNatClampNeg) / (20 : Int32) * (20 : Int32)) / (4 : Int32)) 6 ∧ vp_in (5 : Int32) 6 ∧ vp_in (((M 699 (5 : Int32).toNatClampNeg) - (M 699 (5 : Int32).toNatClampNeg) / (20 : Int32) * (20 : Int32)) / (4 : Int32)) 6 ∧ ∀ M5, M5 = u2 M 699 (((M 699 (5 : Int32).toNatClampNeg) - (M 699 (5 : Int32).toNatClampNeg) / (20 : Int32) * (20 : Int32)) / (4 : Int32)).toNatClampNeg ((M 699 (((M 699 (5 : Int32).toNatClampNeg) - (M 699 (5 : Int32).toNatClampNeg) / (20 : Int32) * (20 : Int32)) / (4 : Int32)).toNatClampNeg) ||| (p2 <<< (((24 : Int32) - ((8 : Int32) * ((M 699 (5 : Int32).toNatClampNeg) - (M 699 (5 : Int32).toNatClampNeg) / (4 : Int32) * (4 : Int32)))) &&& 31))) → vp_in (5 : Int32) 6 ∧ vp_in (5 : Int32) 6 ∧ ∀ M8, M8 = u2 M5 699 (5 : Int32).toNatClampNeg ((M5 699 (5 : Int32).toNatClampNeg) + (1 : Int32)) → vp_in (5 : Int32) 6 ∧ ((((M8 699 (5 : Int32).toNatClampNeg) - (M8 699 (5 : Int32).toNatClampNeg) / (20 : Int32) * (20 : Int32)) = 0 → vp_in (0 : Int32) 6 ∧ vp_in (1 : Int32) 6 ∧ vp_in (2 : Int32) 6 ∧ vp_in (3 : Int32) 6 ∧ vp_in (4 : Int32) 6 ∧ f_X12_appendText (M8 699 (0 : Int32).toNatClampNeg) (M8 699 (1 : Int32).toNatClampNeg) (M8 699 (2 : Int32).toNatClampNeg) (M8 699 (3 : Int32).toNatClampNeg) (M8 699 (4 : Int32).toNatClampNeg) M8 (fun r17 M16 => ∃ n65, f_L_add_L65 p2 K n65 (0 : Int32) M16)) ∧ (¬ ((M8 699 (5 : Int32).toNatClampNeg) - (M8 699 (5 : Int32).toNatClampNeg) / (20 : Int32) * (20 : Int32)) = 0 → K M8))
set_option maxRecDepth 100000 in
set_option maxHeartbeats 4000000 in
theorem c_L_add {ad : Nat → Nat} (p2 : Int32) (M : TM) (K : TM → Prop) (h : f_L_add p2 M K) : MV yL_add cL_add 4 3 ad [.ref (ad 0), .ref (ad 699), .int p2] M K := by
  refine MV_of RL rfl (by decide +kernel) (Nat.le_of_ble_eq_true rfl) (fun p l e s m below meth c D tc E hr => ?_)
  unfold f_L_add at h
  refine ra_aload_n E dL_add_0 rfl 1 rfl ?_
  refine ra_aload_n E dL_add_1 rfl 1 rfl ?_
  refine ra_iconst E dL_add_2 ki_5 ?_
  obtain ⟨g1, h⟩ := h
  refine ra_iald E (lmL (by decide)) (cel_699 tc ad) g1 dL_add_3 ?_
  refine ra_bipush E dL_add_4 kb_20 ?_
  refine ra_irem E dL_add_6 (by decide) ?_
  refine ra_iconst E dL_add_7 ki_4 ?_
  refine ra_idiv E dL_add_8 (by decide) ?_
  refine ra_dup2 E dL_add_9 rfl rfl ?_
  obtain ⟨g2, h⟩ := h
  refine ra_iald E (lmL (by decide)) (cel_699 tc ad) g2 dL_add_10 ?_
  refine ra_iload_n E dL_add_11 rfl 2 rfl ?_
  refine ra_bipush E dL_add_12 kb_24 ?_
  refine ra_bipush E dL_add_14 kb_8 ?_
  refine ra_aload_n E dL_add_16 rfl 1 rfl ?_
  refine ra_iconst E dL_add_17 ki_5 ?_
  obtain ⟨g3, h⟩ := h
  refine ra_iald E (lmL (by decide)) (cel_699 tc ad) g3 dL_add_18 ?_
  refine ra_iconst E dL_add_19 ki_4 ?_
  refine ra_irem E dL_add_20 (by decide) ?_
  refine ra_imul E dL_add_21 ?_
  refine ra_isub E dL_add_22 ?_
  refine ra_ishl E dL_add_23 ?_
  refine ra_ior E dL_add_24 ?_
  obtain ⟨g4, h⟩ := h
  refine ra_iast E (lmL (by decide)) (cel_699 tc ad) g4 dL_add_25 ?_
  replace h := h _ rfl
  refine ra_aload_n E dL_add_26 rfl 1 rfl ?_
  refine ra_iconst E dL_add_27 ki_5 ?_
  refine ra_dup2 E dL_add_28 rfl rfl ?_
  obtain ⟨g6, h⟩ := h
  refine ra_iald E (lmL (by decide)) (cel_699 tc ad) g6 dL_add_29 ?_
  refine ra_iconst E dL_add_30 ki_1 ?_
  refine ra_iadd E dL_add_31 ?_
  obtain ⟨g7, h⟩ := h
  refine ra_iast E (lmL (by decide)) (cel_699 tc ad) g7 dL_add_32 ?_
  replace h := h _ rfl
  refine ra_aload_n E dL_add_33 rfl 1 rfl ?_
  refine ra_iconst E dL_add_34 ki_5 ?_
  obtain ⟨g9, h⟩ := h
  refine ra_iald E (lmL (by decide)) (cel_699 tc ad) g9 dL_add_35 ?_
  refine ra_bipush E dL_add_36 kb_20 ?_
  refine ra_irem E dL_add_38 (by decide) ?_
  refine ra_if_eq (tgt := 43) E dL_add_39 (by decide) (fun q10 => ?_) (fun q10 => ?_)
  · replace h := h.1 q10
    refine ra_aload_n E dL_add_43 rfl 0 rfl ?_
    refine ra_aload_n E dL_add_44 rfl 1 rfl ?_
    refine ra_iconst E dL_add_45 ki_0 ?_
    obtain ⟨g11, h⟩ := h
    refine ra_iald E (lmL (by decide)) (cel_699 tc ad) g11 dL_add_46 ?_
    refine ra_aload_n E dL_add_47 rfl 1 rfl ?_
    refine ra_iconst E dL_add_48 ki_1 ?_
    obtain ⟨g12, h⟩ := h
    refine ra_iald E (lmL (by decide)) (cel_699 tc ad) g12 dL_add_49 ?_
    refine ra_aload_n E dL_add_50 rfl 1 rfl ?_
    refine ra_iconst E dL_add_51 ki_2 ?_
    obtain ⟨g13, h⟩ := h
    refine ra_iald E (lmL (by decide)) (cel_699 tc ad) g13 dL_add_52 ?_
    refine ra_aload_n E dL_add_53 rfl 1 rfl ?_
    refine ra_iconst E dL_add_54 ki_3 ?_
    obtain ⟨g14, h⟩ := h
    refine ra_iald E (lmL (by decide)) (cel_699 tc ad) g14 dL_add_55 ?_
    refine ra_aload_n E dL_add_56 rfl 1 rfl ?_
    refine ra_iconst E dL_add_57 ki_4 ?_
    obtain ⟨g15, h⟩ := h
    refine ra_iald E (lmL (by decide)) (cel_699 tc ad) g15 dL_add_58 ?_
    refine ra_callIV (rest := []) E (c_X12_appendText _ _ _ _ _ _ _ h) (lq_X12 _) cv_X12_appendText ml_L_8 (by decide) (lm (by decide)) (fun R => ⟨_, cel_0 tc ad R⟩) rfl rfl rfl (Nat.le_of_ble_eq_true rfl) ⟨Nat.le_of_ble_eq_true rfl, Nat.le_of_ble_eq_true rfl⟩ ⟨Nat.zero_le _, Nat.zero_le _⟩ dL_add_59 (fun r17 M16 h => ?_)
    refine ra_pop E dL_add_62 rfl ?_
    refine ra_iconst E dL_add_63 ki_0 ?_
    refine ra_istore_n (L' := [(3, _), (0, _), (1, _), (2, _)]) E dL_add_64 rfl (by decide) rfl ?_
    obtain ⟨n21, h⟩ := h
    exact ra_sub (L' := [(1, _), (3, _)]) [2, 0] rfl (l_L_add_L65 p2 E hr n21 _ _ h)
  · replace h := h.2 q10
    exact ra_vret E hr dL_add_42 h
def f_L_end_L4  (K : Int32 → TM → Prop) : Nat → Int32 → TM → Prop
  | 0, _, _ => False
  | n + 1, x2, M => vp_in (5 : Int32) 6 ∧ ((((M 699 (5 : Int32).toNatClampNeg) - (M 699 (5 : Int32).toNatClampNeg) / (20 : Int32) * (20 : Int32)) = 0 → vp_in (5 : Int32) 6 ∧ ∀ M5, M5 = u2 M 699 (5 : Int32).toNatClampNeg (0 : Int32) → K x2 M5) ∧ (¬ ((M 699 (5 : Int32).toNatClampNeg) - (M 699 (5 : Int32).toNatClampNeg) / (20 : Int32) * (20 : Int32)) = 0 → f_L_add (32 : Int32) M (fun M6 => f_L_end_L4 K n x2 M6)))
set_option maxRecDepth 100000 in
set_option maxHeartbeats 4000000 in
theorem l_L_end_L4 {p : Program} {l : Launch} {e : Env} {s : State} {m : MethodId} {args : Array Value} {below : List Frame} {meth : Method} {c : Code} {D : va_G} {tc : Nat → ClassId} {ad : Nat → Nat}  {K : Int32 → TM → Prop} (E : Ev p s m args meth c D tc ad RL cL_end 3) (hr : meth.sig.returnType = (some .int)) : ∀ (n : Nat) (x2 : Int32) (M : TM) , f_L_end_L4  K n x2 M → Wa p l e (rmD 4) s m args below meth c 0 0 (MQ below (va_Qi K (EndW D tc ad) (A0 ad s.heap.size)) args s 0 0 (A0 ad s.heap.size)) D tc ad 3 M 4 [(0, .ref (ad 0)), (1, .ref (ad 699)), (2, .int x2)] [] := by
  intro n
  induction n with
  | zero => intro x2 M  h; exact h.elim
  | succ n ih =>
    intro x2 M  h
    unfold f_L_end_L4 at h
    refine ra_aload_n E dL_end_4 rfl 1 rfl ?_
    refine ra_iconst E dL_end_5 ki_5 ?_
    obtain ⟨g2, h⟩ := h
    refine ra_iald E (lmL (by decide)) (cel_699 tc ad) g2 dL_end_6 ?_
    refine ra_bipush E dL_end_7 kb_20 ?_
    refine ra_irem E dL_end_9 (by decide) ?_
    refine ra_if_eq (tgt := 23) E dL_end_10 (by decide) (fun q3 => ?_) (fun q3 => ?_)
    · replace h := h.1 q3
      refine ra_aload_n E dL_end_23 rfl 1 rfl ?_
      refine ra_iconst E dL_end_24 ki_5 ?_
      refine ra_iconst E dL_end_25 ki_0 ?_
      obtain ⟨g4, h⟩ := h
      refine ra_iast E (lmL (by decide)) (cel_699 tc ad) g4 dL_end_26 ?_
      replace h := h _ rfl
      refine ra_iload_n E dL_end_27 rfl 2 rfl ?_
      exact ra_iret E hr dL_end_28 h
    · replace h := h.2 q3
      refine ra_aload_n E dL_end_13 rfl 0 rfl ?_
      refine ra_aload_n E dL_end_14 rfl 1 rfl ?_
      refine ra_bipush E dL_end_15 kb_32 ?_
      refine ra_callVS (rest := []) E (c_L_add _ _ _ h) (Nat.le_refl _) ct_L_add ml_L_24 (by decide) rfl rfl (Nat.le_of_ble_eq_true rfl) ⟨Nat.le_of_ble_eq_true rfl, Nat.le_of_ble_eq_true rfl⟩ ⟨Nat.zero_le _, Nat.zero_le _⟩ dL_end_17 (fun M6 h => ?_)
      refine ra_goto (tgt := 4) E dL_end_20 (by decide) ?_
      exact ra_sub (L' := [(0, _), (1, _), (2, _)]) [0, 1, 2] rfl (ih _ _ h)
def f_L_end  (M : TM) (K : Int32 → TM → Prop) : Prop := vp_in (5 : Int32) 6 ∧ ∃ n4, f_L_end_L4 K n4 (M 699 (5 : Int32).toNatClampNeg) M
set_option maxRecDepth 100000 in
set_option maxHeartbeats 4000000 in
theorem c_L_end {ad : Nat → Nat}  (M : TM) (K : Int32 → TM → Prop) (h : f_L_end  M K) : MI yL_end cL_end 3 (some .int) 4 ad [.ref (ad 0), .ref (ad 699)] M K := by
  refine MI_of RL rfl (by decide +kernel) (Nat.le_of_ble_eq_true rfl) (fun p l e s m below meth c D tc E hr => ?_)
  unfold f_L_end at h
  refine ra_aload_n E dL_end_0 rfl 1 rfl ?_
  refine ra_iconst E dL_end_1 ki_5 ?_
  obtain ⟨g1, h⟩ := h
  refine ra_iald E (lmL (by decide)) (cel_699 tc ad) g1 dL_end_2 ?_
  refine ra_istore_n (L' := [(2, _), (0, _), (1, _)]) E dL_end_3 rfl (by decide) rfl ?_
  obtain ⟨n7, h⟩ := h
  exact ra_sub (L' := [(0, _), (1, _), (2, _)]) [1, 2, 0] rfl (l_L_end_L4 E hr n7 _ _ h)
def f_DJ0_length_8abf5 (n9 : Nat) (M : TM) (K : Int32 → TM → Prop) : Prop := f_DJ0_coder_7d493 n9 M (fun r2 M1 => K ((nI n9) >>> (r2 &&& 31)) M1)
set_option maxRecDepth 100000 in
set_option maxHeartbeats 4000000 in
theorem c_DJ0_length_8abf5 {ad : Nat → Nat} (h700 : 702 ≤ nW ad) (n9 : Nat) (h9 : ad 1701 = n9) (M : TM) (K : Int32 → TM → Prop) (h : f_DJ0_length_8abf5 n9 M K) : MI yJ0_length_8abf5 cJ0_length_8abf5 1 (some .int) 1 ad [.ref (ad 700)] M K := by
  refine MI_of RJ0 rfl (by decide +kernel) (Nat.le_of_ble_eq_true rfl) (fun p l e s m below meth c D tc E hr => ?_)
  unfold f_DJ0_length_8abf5 at h
  refine ra_aload_n E dJ0_length_8abf5_0 rfl 0 rfl ?_
  refine gf_J0_0 E (Nat.lt_of_lt_of_le (by decide) h700) fl_J0_9 dJ0_length_8abf5_1 ?_
  refine ra_alenW (n := n9) (v := nI n9) (t := 0) E (Nat.lt_of_lt_of_le (by decide) h700) (fun R => ⟨_, (cel_701n tc h9) R, rfl⟩) rfl rfl dJ0_length_8abf5_4 ?_
  refine ra_aload_n E dJ0_length_8abf5_5 rfl 0 rfl ?_
  refine ra_callIVW (rest := [_]) E (c_DJ0_coder_7d493 h700 _ h9 _ _ h) (lq_J0 _) cv_J0_coder_7d493 ml_J0_335 (by decide) (Nat.lt_of_lt_of_le (by decide) h700) (fun R => ⟨_, cel_700 tc ad R⟩) rfl rfl rfl (Nat.le_of_ble_eq_true rfl) ⟨Nat.le_of_ble_eq_true rfl, Nat.le_of_ble_eq_true rfl⟩ ⟨Nat.zero_le _, Nat.zero_le _⟩ dJ0_length_8abf5_6 (fun r2 M1 h => ?_)
  refine ra_ishr E dJ0_length_8abf5_9 ?_
  exact ra_iret E hr dJ0_length_8abf5_10 h
def f_DJ1_charAt_3b067 (n9 : Nat) (p1 : Int32) (M : TM) (K : Int32 → TM → Prop) : Prop := f_J0_checkIndex_df160 p1 (nI n9) M (fun M1 => vp_in p1 n9 ∧ K ((((M1 701 p1.toNatClampNeg) &&& (255 : Int32)).toUInt32 % 65536).toInt32) M1)
set_option maxRecDepth 100000 in
set_option maxHeartbeats 4000000 in
theorem c_DJ1_charAt_3b067 {ad : Nat → Nat} (h700 : 702 ≤ nW ad) (n9 : Nat) (h9 : ad 1701 = n9) (p1 : Int32) (M : TM) (K : Int32 → TM → Prop) (h : f_DJ1_charAt_3b067 n9 p1 M K) : MI yJ1_charAt_3b067 cJ1_charAt_3b067 2 (some .char) 2 ad [.ref (ad 701), .int p1] M (fun r M' => narrow .char (.int r) = .int r ∧ K r M') := by
  refine MI_of RJ1 rfl (by decide +kernel) (Nat.le_of_ble_eq_true rfl) (fun p l e s m below meth c D tc E hr => ?_)
  unfold f_DJ1_charAt_3b067 at h
  refine ra_iload_n E dJ1_charAt_3b067_0 rfl 1 rfl ?_
  refine ra_aload_n E dJ1_charAt_3b067_1 rfl 0 rfl ?_
  refine ra_alenW (n := n9) (v := nI n9) (t := 0) E (Nat.lt_of_lt_of_le (by decide) h700) (fun R => ⟨_, (cel_701n tc h9) R, rfl⟩) rfl rfl dJ1_charAt_3b067_2 ?_
  refine ra_callVS (rest := []) E (c_J0_checkIndex_df160 _ _ _ _ h) (lq_J0 _) ct_J0_checkIndex_df160 ml_J1_9 (by decide) rfl rfl (Nat.le_of_ble_eq_true rfl) ⟨Nat.le_of_ble_eq_true rfl, Nat.le_of_ble_eq_true rfl⟩ ⟨Nat.zero_le _, Nat.zero_le _⟩ dJ1_charAt_3b067_3 (fun M1 h => ?_)
  refine ra_aload_n E dJ1_charAt_3b067_6 rfl 0 rfl ?_
  refine ra_iload_n E dJ1_charAt_3b067_7 rfl 1 rfl ?_
  obtain ⟨g2, h⟩ := h
  refine ra_baldW E (Nat.lt_of_lt_of_le (by decide) h700) (cel_701n tc h9) g2 dJ1_charAt_3b067_8 ?_
  refine ra_sipush E dJ1_charAt_3b067_9 ks_255 ?_
  refine ra_iand E dJ1_charAt_3b067_12 ?_
  refine ra_i2c E dJ1_charAt_3b067_13 rfl ?_
  exact ra_zret E hr (pk_nc _) dJ1_charAt_3b067_14 ⟨pk_nc _, h⟩
def f_X2_addOrder (a0 : Nat) (p1 : Int32) (p2 : Int32) (p3 : Int32) (p4 : Int32) (M : TM) (K : TM → Prop) : Prop := f_X2_canAddOrder a0 p1 M (fun r2 M1 => ((r2 = 0 → K M1) ∧ (¬ r2 = 0 → vp_in (M1 a0 6) 30 ∧ f_X6_reset (a0 + 31 + (M1 a0 6).toNatClampNeg) p1 p2 p3 (((M1 a0 8) + p4) - (1 : Int32)) M1 (fun M6 => ∀ M7, M7 = u2 M6 a0 6 ((M6 a0 6) + (1 : Int32)) → K M7))))
set_option maxRecDepth 100000 in
set_option maxHeartbeats 4000000 in
theorem c_X2_addOrder {ad : Nat → Nat} (a0 : Nat) (h0 : IsCanal a0) (p1 : Int32) (p2 : Int32) (p3 : Int32) (p4 : Int32) (M : TM) (K : TM → Prop) (h : f_X2_addOrder a0 p1 p2 p3 p4 M K) : MV yX2_addOrder cX2_addOrder 5 2 ad [.ref (ad a0), .int p1, .int p2, .int p3, .int p4] M K := by
  refine MV_of RX2 rfl (by decide +kernel) (Nat.le_of_ble_eq_true rfl) (fun p l e s m below meth c D tc E hr => ?_)
  unfold f_X2_addOrder at h
  refine ra_aload_n E dX2_addOrder_0 rfl 0 rfl ?_
  refine ra_iload_n E dX2_addOrder_1 rfl 1 rfl ?_
  refine ra_callIV (rest := []) E (c_X2_canAddOrder _ h0 _ _ _ h) (lq_X2 _) cv_X2_canAddOrder ml_X2_94 (by decide) (lm (h0.add (j := 0) (by decide))) (fun R => ⟨_, cel_canal tc ad h0 R⟩) rfl rfl rfl (Nat.le_of_ble_eq_true rfl) ⟨Nat.le_of_ble_eq_true rfl, Nat.le_of_ble_eq_true rfl⟩ ⟨Nat.zero_le _, Nat.zero_le _⟩ dX2_addOrder_2 (fun r2 M1 h => ?_)
  obtain ⟨b3, h⟩ := h
  refine ra_if_eq (tgt := 42) E dX2_addOrder_5 (by decide) (fun q4 => ?_) (fun q4 => ?_)
  · replace h := h.1 q4
    exact ra_vret E hr dX2_addOrder_42 h
  · replace h := h.2 q4
    refine ra_aload_n E dX2_addOrder_8 rfl 0 rfl ?_
    refine gf_X2_7 E h0 fl_X2_42 dX2_addOrder_9 ?_
    refine ra_aload_n E dX2_addOrder_12 rfl 0 rfl ?_
    refine gf_X2_6 E h0 fl_X2_37 dX2_addOrder_13 ?_
    obtain ⟨g5, h⟩ := h
    refine ra_aald E (lm (h0.add (by decide))) (cel_ords tc ad h0) rfl g5 dX2_addOrder_16 ?_
    refine ra_iload_n E dX2_addOrder_17 rfl 1 rfl ?_
    refine ra_iload_n E dX2_addOrder_18 rfl 2 rfl ?_
    refine ra_iload_n E dX2_addOrder_19 rfl 3 rfl ?_
    refine ra_aload_n E dX2_addOrder_20 rfl 0 rfl ?_
    refine gf_X2_8 E h0 fl_X2_46 dX2_addOrder_21 ?_
    refine ra_iload E dX2_addOrder_24 4 rfl ?_
    refine ra_iadd E dX2_addOrder_26 ?_
    refine ra_iconst E dX2_addOrder_27 ki_1 ?_
    refine ra_isub E dX2_addOrder_28 ?_
    refine ra_callVV (rest := []) E (c_X6_reset _ (isOrder_of h0 g5) _ _ _ _ _ _ h) (lq_X6 _) cv_X6_reset ml_X2_97 (by decide) (lm (isOrder_of h0 g5).lt) (fun R => ⟨_, cel_order tc ad (isOrder_of h0 g5) R⟩) rfl rfl rfl (Nat.le_of_ble_eq_true rfl) ⟨Nat.le_of_ble_eq_true rfl, Nat.le_of_ble_eq_true rfl⟩ ⟨Nat.zero_le _, Nat.zero_le _⟩ dX2_addOrder_29 (fun M6 h => ?_)
    refine ra_aload_n E dX2_addOrder_32 rfl 0 rfl ?_
    refine ra_dup E dX2_addOrder_33 rfl ?_
    refine gf_X2_6 E h0 fl_X2_37 dX2_addOrder_34 ?_
    refine ra_iconst E dX2_addOrder_37 ki_1 ?_
    refine ra_iadd E dX2_addOrder_38 ?_
    refine pf_X2_6 E h0 fl_X2_37 dX2_addOrder_39 ?_
    replace h := h _ rfl
    exact ra_vret E hr dX2_addOrder_42 h
def f_X2_serveOrders_L2 (a0 : Nat) (K : TM → Prop) : Nat → Int32 → TM → Prop
  | 0, _, _ => False
  | n + 1, x1, M => (((M a0 6) ≤ x1 → K M) ∧ (¬ (M a0 6) ≤ x1 → vp_in x1 30 ∧ vp_in x1 30 ∧ vp_in (M (a0 + 31 + x1.toNatClampNeg) 6) 5 ∧ ((¬ (M (a0 + 31 + x1.toNatClampNeg) 6) = (2 : Int32) → f_X2_serveOrders_L2 a0 K n (x1 + 1) M) ∧ ((M (a0 + 31 + x1.toNatClampNeg) 6) = (2 : Int32) → f_X2_hasBarge a0 (M (a0 + 31 + x1.toNatClampNeg) 7) M (fun r7 M6 => ((r7 = 0 → f_X2_serveOrders_L2 a0 K n (x1 + 1) M6) ∧ (¬ r7 = 0 → vp_in (M (a0 + 31 + x1.toNatClampNeg) 7) 5 ∧ vp_in x1 30 ∧ f_X2_serve a0 (a0 + 21 + 2 * (M (a0 + 31 + x1.toNatClampNeg) 7).toNatClampNeg) (a0 + 31 + x1.toNatClampNeg) M6 (fun M12 => f_X2_serveOrders_L2 a0 K n (x1 + 1) M12))))))))
set_option maxRecDepth 100000 in
set_option maxHeartbeats 4000000 in
theorem l_X2_serveOrders_L2 {p : Program} {l : Launch} {e : Env} {s : State} {m : MethodId} {args : Array Value} {below : List Frame} {meth : Method} {c : Code} {D : va_G} {tc : Nat → ClassId} {ad : Nat → Nat} (a0 : Nat) (h0 : IsCanal a0) {K : TM → Prop} (E : Ev p s m args meth c D tc ad RX2 cX2_serveOrders 3) (hr : meth.sig.returnType = none) : ∀ (n : Nat) (x1 : Int32) (M : TM) , f_X2_serveOrders_L2 a0 K n x1 M → Wa p l e (rmD 2) s m args below meth c 0 0 (MQ below (va_Qv K (EndW D tc ad) (A0 ad s.heap.size)) args s 0 0 (A0 ad s.heap.size)) D tc ad 3 M 2 [(0, .ref (ad a0)), (1, .int x1)] [] := by
  intro n
  induction n with
  | zero => intro x1 M  h; exact h.elim
  | succ n ih =>
    intro x1 M  h
    unfold f_X2_serveOrders_L2 at h
    refine ra_iload_n E dX2_serveOrders_2 rfl 1 rfl ?_
    refine ra_aload_n E dX2_serveOrders_3 rfl 0 rfl ?_
    refine gf_X2_6 E h0 fl_X2_37 dX2_serveOrders_4 ?_
    refine ra_icmp_ge (tgt := 65) E dX2_serveOrders_7 (by decide) (fun q1 => ?_) (fun q1 => ?_)
    · replace h := h.1 q1
      exact ra_vret E hr dX2_serveOrders_65 h
    · replace h := h.2 q1
      refine ra_aload_n E dX2_serveOrders_10 rfl 0 rfl ?_
      refine gf_X2_7 E h0 fl_X2_42 dX2_serveOrders_11 ?_
      refine ra_iload_n E dX2_serveOrders_14 rfl 1 rfl ?_
      obtain ⟨g2, h⟩ := h
      refine ra_aald E (lm (h0.add (by decide))) (cel_ords tc ad h0) rfl g2 dX2_serveOrders_15 ?_
      refine gf_X6_7 E (isOrder_of h0 g2) fl_X2_109 dX2_serveOrders_16 ?_
      refine ra_istore_n (L' := [(2, _), (0, _), (1, _)]) E dX2_serveOrders_19 rfl (by decide) rfl ?_
      refine ra_aload_n E dX2_serveOrders_20 rfl 1 rfl ?_
      refine gf_X2_7 E h0 fl_X2_42 dX2_serveOrders_21 ?_
      refine ra_iload_n E dX2_serveOrders_24 rfl 2 rfl ?_
      obtain ⟨g3, h⟩ := h
      refine ra_aald E (lm (h0.add (by decide))) (cel_ords tc ad h0) rfl g3 dX2_serveOrders_25 ?_
      refine gf_X6_6 E (isOrder_of h0 g3) fl_X2_132 dX2_serveOrders_26 ?_
      refine gs_O (i := 2) E 2 (by decide) rfl (by decide) fl_X2_257 dX2_serveOrders_29 ?_
      obtain ⟨g5, h⟩ := h
      refine acmpO_ne (tgt := 59) E g5 (vpl _ _ (by decide)) dX2_serveOrders_32 (by decide) (fun q4 => ?_) (fun q4 => ?_)
      · replace h := h.1 q4
        refine ra_iinc1 (L' := [(1, _), (2, _), (0, _)]) E dX2_serveOrders_59 2 rfl (by decide) rfl ?_
        refine ra_goto (tgt := 2) E dX2_serveOrders_62 (by decide) ?_
        exact ra_sub (L' := [(0, _), (1, _)]) [2, 0] rfl (ih _ _ h)
      · replace h := h.2 q4
        refine ra_aload_n E dX2_serveOrders_35 rfl 1 rfl ?_
        refine ra_iload_n E dX2_serveOrders_36 rfl 0 rfl ?_
        refine ra_callIV (rest := []) E (c_X2_hasBarge _ h0 _ _ _ h) (lq_X2 _) cv_X2_hasBarge ml_X2_162 (by decide) (lm (h0.add (j := 0) (by decide))) (fun R => ⟨_, cel_canal tc ad h0 R⟩) rfl rfl rfl (Nat.le_of_ble_eq_true rfl) ⟨Nat.le_of_ble_eq_true rfl, Nat.le_of_ble_eq_true rfl⟩ ⟨Nat.zero_le _, Nat.zero_le _⟩ dX2_serveOrders_37 (fun r7 M6 h => ?_)
        obtain ⟨b8, h⟩ := h
        refine ra_if_eq (tgt := 59) E dX2_serveOrders_40 (by decide) (fun q9 => ?_) (fun q9 => ?_)
        · replace h := h.1 q9
          refine ra_iinc1 (L' := [(1, _), (2, _), (0, _)]) E dX2_serveOrders_59 2 rfl (by decide) rfl ?_
          refine ra_goto (tgt := 2) E dX2_serveOrders_62 (by decide) ?_
          exact ra_sub (L' := [(0, _), (1, _)]) [2, 0] rfl (ih _ _ h)
        · replace h := h.2 q9
          refine ra_aload_n E dX2_serveOrders_43 rfl 1 rfl ?_
          refine ra_aload_n E dX2_serveOrders_44 rfl 1 rfl ?_
          refine gf_X2_5 E h0 fl_X2_33 dX2_serveOrders_45 ?_
          refine ra_iload_n E dX2_serveOrders_48 rfl 0 rfl ?_
          obtain ⟨g10, h⟩ := h
          refine ra_aald E (lm (h0.add (by decide))) (cel_bars tc ad h0) rfl g10 dX2_serveOrders_49 ?_
          refine ra_aload_n E dX2_serveOrders_50 rfl 1 rfl ?_
          refine gf_X2_7 E h0 fl_X2_42 dX2_serveOrders_51 ?_
          refine ra_iload_n E dX2_serveOrders_54 rfl 2 rfl ?_
          obtain ⟨g11, h⟩ := h
          refine ra_aald E (lm (h0.add (by decide))) (cel_ords tc ad h0) rfl g11 dX2_serveOrders_55 ?_
          refine ra_callVV (rest := []) E (c_X2_serve _ h0 _ (isBarge_of h0 g10) _ (isOrder_of h0 g11) _ _ h) (lq_X2 _) cv_X2_serve ml_X2_260 (by decide) (lm (h0.add (j := 0) (by decide))) (fun R => ⟨_, cel_canal tc ad h0 R⟩) rfl rfl rfl (Nat.le_of_ble_eq_true rfl) ⟨Nat.le_of_ble_eq_true rfl, Nat.le_of_ble_eq_true rfl⟩ ⟨Nat.zero_le _, Nat.zero_le _⟩ dX2_serveOrders_56 (fun M12 h => ?_)
          refine ra_iinc1 (L' := [(1, _), (2, _), (0, _)]) E dX2_serveOrders_59 2 rfl (by decide) rfl ?_
          refine ra_goto (tgt := 2) E dX2_serveOrders_62 (by decide) ?_
          exact ra_sub (L' := [(0, _), (1, _)]) [2, 0] rfl (ih _ _ h)
def f_X2_serveOrders (a0 : Nat) (M : TM) (K : TM → Prop) : Prop := ∃ n2, f_X2_serveOrders_L2 a0 K n2 (0 : Int32) M
set_option maxRecDepth 100000 in
set_option maxHeartbeats 4000000 in
theorem c_X2_serveOrders {ad : Nat → Nat} (a0 : Nat) (h0 : IsCanal a0) (M : TM) (K : TM → Prop) (h : f_X2_serveOrders a0 M K) : MV yX2_serveOrders cX2_serveOrders 3 2 ad [.ref (ad a0)] M K := by
  refine MV_of RX2 rfl (by decide +kernel) (Nat.le_of_ble_eq_true rfl) (fun p l e s m below meth c D tc E hr => ?_)
  unfold f_X2_serveOrders at h
  refine ra_iconst E dX2_serveOrders_0 ki_0 ?_
  refine ra_istore_n (L' := [(1, _), (0, _)]) E dX2_serveOrders_1 rfl (by decide) rfl ?_
  obtain ⟨n13, h⟩ := h
  exact ra_sub (L' := [(0, _), (1, _)]) [1, 0] rfl (l_X2_serveOrders_L2 a0 h0 E hr n13 _ _ h)
def f_X3_parseLock_L47 (a1 : Nat) (K : TM → Prop) (x3 : Int32) (M : TM) : Prop := vp_in x3 15 ∧ f_X10_readNumber (1 : Int32) (9 : Int32) M (fun r13 M12 => ∀ M14, M14 = u2 M12 (a1 + 6 + x3.toNatClampNeg) 0 r13 → f_X10_readToken (5 : Int32) M14 (fun M15 => K M15))
set_option maxRecDepth 100000 in
set_option maxHeartbeats 4000000 in
theorem l_X3_parseLock_L47 {p : Program} {l : Launch} {e : Env} {s : State} {m : MethodId} {args : Array Value} {below : List Frame} {meth : Method} {c : Code} {D : va_G} {tc : Nat → ClassId} {ad : Nat → Nat} (a1 : Nat) (h1 : IsCanal a1) {K : TM → Prop} (E : Ev p s m args meth c D tc ad RX3 cX3_parseLock 4) (hr : meth.sig.returnType = none) : ∀ (x3 : Int32) (M : TM) , f_X3_parseLock_L47 a1 K x3 M → Wa p l e (rmD 3) s m args below meth c 0 0 (MQ below (va_Qv K (EndW D tc ad) (A0 ad s.heap.size)) args s 0 0 (A0 ad s.heap.size)) D tc ad 4 M 47 [(0, .ref (ad 1)), (1, .ref (ad a1)), (3, .int x3)] [] := by
  intro x3 M  h
  unfold f_X3_parseLock_L47 at h
  refine ra_aload_n E dX3_parseLock_47 rfl 1 rfl ?_
  refine gf_X2_1 E h1 fl_X3_70 dX3_parseLock_48 ?_
  refine ra_iload_n E dX3_parseLock_51 rfl 2 rfl ?_
  obtain ⟨g11, h⟩ := h
  refine ra_aald E (lm (h1.add (by decide))) (cel_secs tc ad h1) rfl g11 dX3_parseLock_52 ?_
  refine ra_aload_n E dX3_parseLock_53 rfl 0 rfl ?_
  refine ra_iconst E dX3_parseLock_54 ki_1 ?_
  refine ra_bipush E dX3_parseLock_55 kb_9 ?_
  refine ra_callIV (rest := [_]) E (c_X10_readNumber _ _ _ _ h) (lq_X10 _) cv_X10_readNumber ml_X3_17 (by decide) (lm (by decide)) (fun R => ⟨_, cel_1 tc ad R⟩) rfl rfl rfl (Nat.le_of_ble_eq_true rfl) ⟨Nat.le_of_ble_eq_true rfl, Nat.le_of_ble_eq_true rfl⟩ ⟨Nat.zero_le _, Nat.zero_le _⟩ dX3_parseLock_57 (fun r13 M12 h => ?_)
  refine pf_X9_0 E (isSec_of h1 g11) fl_X3_74 dX3_parseLock_60 ?_
  replace h := h _ rfl
  refine ra_aload_n E dX3_parseLock_63 rfl 0 rfl ?_
  refine ra_iconst E dX3_parseLock_64 ki_5 ?_
  refine ra_callVV (rest := []) E (c_X10_readToken _ _ _ h) (lq_X10 _) cv_X10_readToken ml_X3_27 (by decide) (lm (by decide)) (fun R => ⟨_, cel_1 tc ad R⟩) rfl rfl rfl (Nat.le_of_ble_eq_true rfl) ⟨Nat.le_of_ble_eq_true rfl, Nat.le_of_ble_eq_true rfl⟩ ⟨Nat.zero_le _, Nat.zero_le _⟩ dX3_parseLock_65 (fun M15 h => ?_)
  exact ra_vret E hr dX3_parseLock_68 h
def f_X3_parseLock (a1 : Nat) (M : TM) (K : TM → Prop) : Prop := f_X10_advance M (fun M1 => f_X10_readNumber (0 : Int32) ((M1 a1 0) - (2 : Int32)) M1 (fun r3 M2 => f_X2_hasSection a1 r3 M2 (fun r5 M4 => ((r5 = 0 → f_X10_readToken (5 : Int32) M4 (fun M8 => K M8)) ∧ (¬ r5 = 0 → vp_in r3 15 ∧ (((M4 (a1 + 6 + r3.toNatClampNeg) 0) ≤ 0 → f_X3_parseLock_L47 a1 K r3 M4) ∧ (¬ (M4 (a1 + 6 + r3.toNatClampNeg) 0) ≤ 0 → f_X10_failAt (3 : Int32) (M1 1 4) M4 (fun M16 => f_X3_parseLock_L47 a1 K r3 M16))))))))
set_option maxRecDepth 100000 in
set_option maxHeartbeats 4000000 in
theorem c_X3_parseLock {ad : Nat → Nat} (a1 : Nat) (h1 : IsCanal a1) (M : TM) (K : TM → Prop) (h : f_X3_parseLock a1 M K) : MV yX3_parseLock cX3_parseLock 4 3 ad [.ref (ad 1), .ref (ad a1)] M K := by
  refine MV_of RX3 rfl (by decide +kernel) (Nat.le_of_ble_eq_true rfl) (fun p l e s m below meth c D tc E hr => ?_)
  unfold f_X3_parseLock at h
  refine ra_aload_n E dX3_parseLock_0 rfl 0 rfl ?_
  refine ra_callVV (rest := []) E (c_X10_advance _ _ h) (lq_X10 _) cv_X10_advance ml_X3_56 (by decide) (lm (by decide)) (fun R => ⟨_, cel_1 tc ad R⟩) rfl rfl rfl (Nat.le_of_ble_eq_true rfl) ⟨Nat.le_of_ble_eq_true rfl, Nat.le_of_ble_eq_true rfl⟩ ⟨Nat.zero_le _, Nat.zero_le _⟩ dX3_parseLock_1 (fun M1 h => ?_)
  refine ra_aload_n E dX3_parseLock_4 rfl 0 rfl ?_
  refine gf_X10_4 E fl_X3_59 dX3_parseLock_5 ?_
  refine ra_istore_n (L' := [(2, _), (0, _), (1, _)]) E dX3_parseLock_8 rfl (by decide) rfl ?_
  refine ra_aload_n E dX3_parseLock_9 rfl 1 rfl ?_
  refine ra_iconst E dX3_parseLock_10 ki_0 ?_
  refine ra_aload_n E dX3_parseLock_11 rfl 2 rfl ?_
  refine gf_X2_0 E h1 fl_X3_63 dX3_parseLock_12 ?_
  refine ra_iconst E dX3_parseLock_15 ki_2 ?_
  refine ra_isub E dX3_parseLock_16 ?_
  refine ra_callIV (rest := []) E (c_X10_readNumber _ _ _ _ h) (lq_X10 _) cv_X10_readNumber ml_X3_17 (by decide) (lm (by decide)) (fun R => ⟨_, cel_1 tc ad R⟩) rfl rfl rfl (Nat.le_of_ble_eq_true rfl) ⟨Nat.le_of_ble_eq_true rfl, Nat.le_of_ble_eq_true rfl⟩ ⟨Nat.zero_le _, Nat.zero_le _⟩ dX3_parseLock_17 (fun r3 M2 h => ?_)
  refine ra_istore_n (L' := [(3, _), (2, _), (0, _), (1, _)]) E dX3_parseLock_20 rfl (by decide) rfl ?_
  refine ra_aload_n E dX3_parseLock_21 rfl 3 rfl ?_
  refine ra_iload_n E dX3_parseLock_22 rfl 0 rfl ?_
  refine ra_callIV (rest := []) E (c_X2_hasSection _ h1 _ _ _ h) (lq_X2 _) cv_X2_hasSection ml_X3_66 (by decide) (lm (h1.add (j := 0) (by decide))) (fun R => ⟨_, cel_canal tc ad h1 R⟩) rfl rfl rfl (Nat.le_of_ble_eq_true rfl) ⟨Nat.le_of_ble_eq_true rfl, Nat.le_of_ble_eq_true rfl⟩ ⟨Nat.zero_le _, Nat.zero_le _⟩ dX3_parseLock_23 (fun r5 M4 h => ?_)
  obtain ⟨b6, h⟩ := h
  refine ra_if_eq (tgt := 63) E dX3_parseLock_26 (by decide) (fun q7 => ?_) (fun q7 => ?_)
  · replace h := h.1 q7
    refine ra_aload_n E dX3_parseLock_63 rfl 2 rfl ?_
    refine ra_iconst E dX3_parseLock_64 ki_5 ?_
    refine ra_callVV (rest := []) E (c_X10_readToken _ _ _ h) (lq_X10 _) cv_X10_readToken ml_X3_27 (by decide) (lm (by decide)) (fun R => ⟨_, cel_1 tc ad R⟩) rfl rfl rfl (Nat.le_of_ble_eq_true rfl) ⟨Nat.le_of_ble_eq_true rfl, Nat.le_of_ble_eq_true rfl⟩ ⟨Nat.zero_le _, Nat.zero_le _⟩ dX3_parseLock_65 (fun M8 h => ?_)
    exact ra_vret E hr dX3_parseLock_68 h
  · replace h := h.2 q7
    refine ra_aload_n E dX3_parseLock_29 rfl 3 rfl ?_
    refine gf_X2_1 E h1 fl_X3_70 dX3_parseLock_30 ?_
    refine ra_iload_n E dX3_parseLock_33 rfl 0 rfl ?_
    obtain ⟨g9, h⟩ := h
    refine ra_aald E (lm (h1.add (by decide))) (cel_secs tc ad h1) rfl g9 dX3_parseLock_34 ?_
    refine gf_X9_0 E (isSec_of h1 g9) fl_X3_74 dX3_parseLock_35 ?_
    refine ra_if_le (tgt := 47) E dX3_parseLock_38 (by decide) (fun q10 => ?_) (fun q10 => ?_)
    · replace h := h.1 q10
      exact ra_sub (L' := [(0, _), (1, _), (3, _)]) [2, 3, 0] rfl (l_X3_parseLock_L47 a1 h1 E hr _ _ h)
    · replace h := h.2 q10
      refine ra_aload_n E dX3_parseLock_41 rfl 2 rfl ?_
      refine ra_iconst E dX3_parseLock_42 ki_3 ?_
      refine ra_iload_n E dX3_parseLock_43 rfl 1 rfl ?_
      refine ra_callVV (rest := []) E (c_X10_failAt _ _ _ _ h) (lq_X10 _) cv_X10_failAt ml_X3_79 (by decide) (lm (by decide)) (fun R => ⟨_, cel_1 tc ad R⟩) rfl rfl rfl (Nat.le_of_ble_eq_true rfl) ⟨Nat.le_of_ble_eq_true rfl, Nat.le_of_ble_eq_true rfl⟩ ⟨Nat.zero_le _, Nat.zero_le _⟩ dX3_parseLock_44 (fun M16 h => ?_)
      exact ra_sub (L' := [(0, _), (1, _), (3, _)]) [2, 3, 0] rfl (l_X3_parseLock_L47 a1 h1 E hr _ _ h)
def f_X3_parseBridge_L47 (a1 : Nat) (K : TM → Prop) (x3 : Int32) (M : TM) : Prop := vp_in x3 15 ∧ f_X10_readNumber (1 : Int32) (9 : Int32) M (fun r13 M12 => ∀ M14, M14 = u2 M12 (a1 + 6 + x3.toNatClampNeg) 1 r13 → f_X10_readToken (5 : Int32) M14 (fun M15 => K M15))
set_option maxRecDepth 100000 in
set_option maxHeartbeats 4000000 in
theorem l_X3_parseBridge_L47 {p : Program} {l : Launch} {e : Env} {s : State} {m : MethodId} {args : Array Value} {below : List Frame} {meth : Method} {c : Code} {D : va_G} {tc : Nat → ClassId} {ad : Nat → Nat} (a1 : Nat) (h1 : IsCanal a1) {K : TM → Prop} (E : Ev p s m args meth c D tc ad RX3 cX3_parseBridge 4) (hr : meth.sig.returnType = none) : ∀ (x3 : Int32) (M : TM) , f_X3_parseBridge_L47 a1 K x3 M → Wa p l e (rmD 3) s m args below meth c 0 0 (MQ below (va_Qv K (EndW D tc ad) (A0 ad s.heap.size)) args s 0 0 (A0 ad s.heap.size)) D tc ad 4 M 47 [(0, .ref (ad 1)), (1, .ref (ad a1)), (3, .int x3)] [] := by
  intro x3 M  h
  unfold f_X3_parseBridge_L47 at h
  refine ra_aload_n E dX3_parseBridge_47 rfl 1 rfl ?_
  refine gf_X2_1 E h1 fl_X3_70 dX3_parseBridge_48 ?_
  refine ra_iload_n E dX3_parseBridge_51 rfl 2 rfl ?_
  obtain ⟨g11, h⟩ := h
  refine ra_aald E (lm (h1.add (by decide))) (cel_secs tc ad h1) rfl g11 dX3_parseBridge_52 ?_
  refine ra_aload_n E dX3_parseBridge_53 rfl 0 rfl ?_
  refine ra_iconst E dX3_parseBridge_54 ki_1 ?_
  refine ra_bipush E dX3_parseBridge_55 kb_9 ?_
  refine ra_callIV (rest := [_]) E (c_X10_readNumber _ _ _ _ h) (lq_X10 _) cv_X10_readNumber ml_X3_17 (by decide) (lm (by decide)) (fun R => ⟨_, cel_1 tc ad R⟩) rfl rfl rfl (Nat.le_of_ble_eq_true rfl) ⟨Nat.le_of_ble_eq_true rfl, Nat.le_of_ble_eq_true rfl⟩ ⟨Nat.zero_le _, Nat.zero_le _⟩ dX3_parseBridge_57 (fun r13 M12 h => ?_)
  refine pf_X9_1 E (isSec_of h1 g11) fl_X3_83 dX3_parseBridge_60 ?_
  replace h := h _ rfl
  refine ra_aload_n E dX3_parseBridge_63 rfl 0 rfl ?_
  refine ra_iconst E dX3_parseBridge_64 ki_5 ?_
  refine ra_callVV (rest := []) E (c_X10_readToken _ _ _ h) (lq_X10 _) cv_X10_readToken ml_X3_27 (by decide) (lm (by decide)) (fun R => ⟨_, cel_1 tc ad R⟩) rfl rfl rfl (Nat.le_of_ble_eq_true rfl) ⟨Nat.le_of_ble_eq_true rfl, Nat.le_of_ble_eq_true rfl⟩ ⟨Nat.zero_le _, Nat.zero_le _⟩ dX3_parseBridge_65 (fun M15 h => ?_)
  exact ra_vret E hr dX3_parseBridge_68 h
def f_X3_parseBridge (a1 : Nat) (M : TM) (K : TM → Prop) : Prop := f_X10_advance M (fun M1 => f_X10_readNumber (0 : Int32) ((M1 a1 0) - (2 : Int32)) M1 (fun r3 M2 => f_X2_hasSection a1 r3 M2 (fun r5 M4 => ((r5 = 0 → f_X10_readToken (5 : Int32) M4 (fun M8 => K M8)) ∧ (¬ r5 = 0 → vp_in r3 15 ∧ (((M4 (a1 + 6 + r3.toNatClampNeg) 1) ≤ 0 → f_X3_parseBridge_L47 a1 K r3 M4) ∧ (¬ (M4 (a1 + 6 + r3.toNatClampNeg) 1) ≤ 0 → f_X10_failAt (3 : Int32) (M1 1 4) M4 (fun M16 => f_X3_parseBridge_L47 a1 K r3 M16))))))))
set_option maxRecDepth 100000 in
set_option maxHeartbeats 4000000 in
theorem c_X3_parseBridge {ad : Nat → Nat} (a1 : Nat) (h1 : IsCanal a1) (M : TM) (K : TM → Prop) (h : f_X3_parseBridge a1 M K) : MV yX3_parseBridge cX3_parseBridge 4 3 ad [.ref (ad 1), .ref (ad a1)] M K := by
  refine MV_of RX3 rfl (by decide +kernel) (Nat.le_of_ble_eq_true rfl) (fun p l e s m below meth c D tc E hr => ?_)
  unfold f_X3_parseBridge at h
  refine ra_aload_n E dX3_parseBridge_0 rfl 0 rfl ?_
  refine ra_callVV (rest := []) E (c_X10_advance _ _ h) (lq_X10 _) cv_X10_advance ml_X3_56 (by decide) (lm (by decide)) (fun R => ⟨_, cel_1 tc ad R⟩) rfl rfl rfl (Nat.le_of_ble_eq_true rfl) ⟨Nat.le_of_ble_eq_true rfl, Nat.le_of_ble_eq_true rfl⟩ ⟨Nat.zero_le _, Nat.zero_le _⟩ dX3_parseBridge_1 (fun M1 h => ?_)
  refine ra_aload_n E dX3_parseBridge_4 rfl 0 rfl ?_
  refine gf_X10_4 E fl_X3_59 dX3_parseBridge_5 ?_
  refine ra_istore_n (L' := [(2, _), (0, _), (1, _)]) E dX3_parseBridge_8 rfl (by decide) rfl ?_
  refine ra_aload_n E dX3_parseBridge_9 rfl 1 rfl ?_
  refine ra_iconst E dX3_parseBridge_10 ki_0 ?_
  refine ra_aload_n E dX3_parseBridge_11 rfl 2 rfl ?_
  refine gf_X2_0 E h1 fl_X3_63 dX3_parseBridge_12 ?_
  refine ra_iconst E dX3_parseBridge_15 ki_2 ?_
  refine ra_isub E dX3_parseBridge_16 ?_
  refine ra_callIV (rest := []) E (c_X10_readNumber _ _ _ _ h) (lq_X10 _) cv_X10_readNumber ml_X3_17 (by decide) (lm (by decide)) (fun R => ⟨_, cel_1 tc ad R⟩) rfl rfl rfl (Nat.le_of_ble_eq_true rfl) ⟨Nat.le_of_ble_eq_true rfl, Nat.le_of_ble_eq_true rfl⟩ ⟨Nat.zero_le _, Nat.zero_le _⟩ dX3_parseBridge_17 (fun r3 M2 h => ?_)
  refine ra_istore_n (L' := [(3, _), (2, _), (0, _), (1, _)]) E dX3_parseBridge_20 rfl (by decide) rfl ?_
  refine ra_aload_n E dX3_parseBridge_21 rfl 3 rfl ?_
  refine ra_iload_n E dX3_parseBridge_22 rfl 0 rfl ?_
  refine ra_callIV (rest := []) E (c_X2_hasSection _ h1 _ _ _ h) (lq_X2 _) cv_X2_hasSection ml_X3_66 (by decide) (lm (h1.add (j := 0) (by decide))) (fun R => ⟨_, cel_canal tc ad h1 R⟩) rfl rfl rfl (Nat.le_of_ble_eq_true rfl) ⟨Nat.le_of_ble_eq_true rfl, Nat.le_of_ble_eq_true rfl⟩ ⟨Nat.zero_le _, Nat.zero_le _⟩ dX3_parseBridge_23 (fun r5 M4 h => ?_)
  obtain ⟨b6, h⟩ := h
  refine ra_if_eq (tgt := 63) E dX3_parseBridge_26 (by decide) (fun q7 => ?_) (fun q7 => ?_)
  · replace h := h.1 q7
    refine ra_aload_n E dX3_parseBridge_63 rfl 2 rfl ?_
    refine ra_iconst E dX3_parseBridge_64 ki_5 ?_
    refine ra_callVV (rest := []) E (c_X10_readToken _ _ _ h) (lq_X10 _) cv_X10_readToken ml_X3_27 (by decide) (lm (by decide)) (fun R => ⟨_, cel_1 tc ad R⟩) rfl rfl rfl (Nat.le_of_ble_eq_true rfl) ⟨Nat.le_of_ble_eq_true rfl, Nat.le_of_ble_eq_true rfl⟩ ⟨Nat.zero_le _, Nat.zero_le _⟩ dX3_parseBridge_65 (fun M8 h => ?_)
    exact ra_vret E hr dX3_parseBridge_68 h
  · replace h := h.2 q7
    refine ra_aload_n E dX3_parseBridge_29 rfl 3 rfl ?_
    refine gf_X2_1 E h1 fl_X3_70 dX3_parseBridge_30 ?_
    refine ra_iload_n E dX3_parseBridge_33 rfl 0 rfl ?_
    obtain ⟨g9, h⟩ := h
    refine ra_aald E (lm (h1.add (by decide))) (cel_secs tc ad h1) rfl g9 dX3_parseBridge_34 ?_
    refine gf_X9_1 E (isSec_of h1 g9) fl_X3_83 dX3_parseBridge_35 ?_
    refine ra_if_le (tgt := 47) E dX3_parseBridge_38 (by decide) (fun q10 => ?_) (fun q10 => ?_)
    · replace h := h.1 q10
      exact ra_sub (L' := [(0, _), (1, _), (3, _)]) [2, 3, 0] rfl (l_X3_parseBridge_L47 a1 h1 E hr _ _ h)
    · replace h := h.2 q10
      refine ra_aload_n E dX3_parseBridge_41 rfl 2 rfl ?_
      refine ra_iconst E dX3_parseBridge_42 ki_3 ?_
      refine ra_iload_n E dX3_parseBridge_43 rfl 1 rfl ?_
      refine ra_callVV (rest := []) E (c_X10_failAt _ _ _ _ h) (lq_X10 _) cv_X10_failAt ml_X3_79 (by decide) (lm (by decide)) (fun R => ⟨_, cel_1 tc ad R⟩) rfl rfl rfl (Nat.le_of_ble_eq_true rfl) ⟨Nat.le_of_ble_eq_true rfl, Nat.le_of_ble_eq_true rfl⟩ ⟨Nat.zero_le _, Nat.zero_le _⟩ dX3_parseBridge_44 (fun M16 h => ?_)
      exact ra_sub (L' := [(0, _), (1, _), (3, _)]) [2, 3, 0] rfl (l_X3_parseBridge_L47 a1 h1 E hr _ _ h)
def f_X3_parseBarge (a1 : Nat) (M : TM) (K : TM → Prop) : Prop := f_X10_advance M (fun M1 => f_X10_readNumber (0 : Int32) ((M1 a1 0) - (1 : Int32)) M1 (fun r3 M2 => f_X10_readNumber (1 : Int32) (9 : Int32) M2 (fun r5 M4 => f_X10_readNumber (0 : Int32) (99 : Int32) M4 (fun r7 M6 => f_X10_readNumber (0 : Int32) (99 : Int32) M6 (fun r9 M8 => f_X10_readToken (5 : Int32) M8 (fun M10 => f_X2_addBarge a1 r3 r5 r7 r9 M10 (fun M11 => K M11)))))))
set_option maxRecDepth 100000 in
set_option maxHeartbeats 4000000 in
theorem c_X3_parseBarge {ad : Nat → Nat} (a1 : Nat) (h1 : IsCanal a1) (M : TM) (K : TM → Prop) (h : f_X3_parseBarge a1 M K) : MV yX3_parseBarge cX3_parseBarge 6 3 ad [.ref (ad 1), .ref (ad a1)] M K := by
  refine MV_of RX3 rfl (by decide +kernel) (Nat.le_of_ble_eq_true rfl) (fun p l e s m below meth c D tc E hr => ?_)
  unfold f_X3_parseBarge at h
  refine ra_aload_n E dX3_parseBarge_0 rfl 0 rfl ?_
  refine ra_callVV (rest := []) E (c_X10_advance _ _ h) (lq_X10 _) cv_X10_advance ml_X3_56 (by decide) (lm (by decide)) (fun R => ⟨_, cel_1 tc ad R⟩) rfl rfl rfl (Nat.le_of_ble_eq_true rfl) ⟨Nat.le_of_ble_eq_true rfl, Nat.le_of_ble_eq_true rfl⟩ ⟨Nat.zero_le _, Nat.zero_le _⟩ dX3_parseBarge_1 (fun M1 h => ?_)
  refine ra_aload_n E dX3_parseBarge_4 rfl 0 rfl ?_
  refine ra_iconst E dX3_parseBarge_5 ki_0 ?_
  refine ra_aload_n E dX3_parseBarge_6 rfl 1 rfl ?_
  refine gf_X2_0 E h1 fl_X3_63 dX3_parseBarge_7 ?_
  refine ra_iconst E dX3_parseBarge_10 ki_1 ?_
  refine ra_isub E dX3_parseBarge_11 ?_
  refine ra_callIV (rest := []) E (c_X10_readNumber _ _ _ _ h) (lq_X10 _) cv_X10_readNumber ml_X3_17 (by decide) (lm (by decide)) (fun R => ⟨_, cel_1 tc ad R⟩) rfl rfl rfl (Nat.le_of_ble_eq_true rfl) ⟨Nat.le_of_ble_eq_true rfl, Nat.le_of_ble_eq_true rfl⟩ ⟨Nat.zero_le _, Nat.zero_le _⟩ dX3_parseBarge_12 (fun r3 M2 h => ?_)
  refine ra_istore_n (L' := [(2, _), (0, _), (1, _)]) E dX3_parseBarge_15 rfl (by decide) rfl ?_
  refine ra_aload_n E dX3_parseBarge_16 rfl 1 rfl ?_
  refine ra_iconst E dX3_parseBarge_17 ki_1 ?_
  refine ra_bipush E dX3_parseBarge_18 kb_9 ?_
  refine ra_callIV (rest := []) E (c_X10_readNumber _ _ _ _ h) (lq_X10 _) cv_X10_readNumber ml_X3_17 (by decide) (lm (by decide)) (fun R => ⟨_, cel_1 tc ad R⟩) rfl rfl rfl (Nat.le_of_ble_eq_true rfl) ⟨Nat.le_of_ble_eq_true rfl, Nat.le_of_ble_eq_true rfl⟩ ⟨Nat.zero_le _, Nat.zero_le _⟩ dX3_parseBarge_20 (fun r5 M4 h => ?_)
  refine ra_istore_n (L' := [(3, _), (2, _), (0, _), (1, _)]) E dX3_parseBarge_23 rfl (by decide) rfl ?_
  refine ra_aload_n E dX3_parseBarge_24 rfl 2 rfl ?_
  refine ra_iconst E dX3_parseBarge_25 ki_0 ?_
  refine ra_bipush E dX3_parseBarge_26 kb_99 ?_
  refine ra_callIV (rest := []) E (c_X10_readNumber _ _ _ _ h) (lq_X10 _) cv_X10_readNumber ml_X3_17 (by decide) (lm (by decide)) (fun R => ⟨_, cel_1 tc ad R⟩) rfl rfl rfl (Nat.le_of_ble_eq_true rfl) ⟨Nat.le_of_ble_eq_true rfl, Nat.le_of_ble_eq_true rfl⟩ ⟨Nat.zero_le _, Nat.zero_le _⟩ dX3_parseBarge_28 (fun r7 M6 h => ?_)
  refine ra_istore (L' := [(4, _), (3, _), (2, _), (0, _), (1, _)]) E dX3_parseBarge_31 (by decide) rfl ?_
  refine ra_aload_n E dX3_parseBarge_33 rfl 3 rfl ?_
  refine ra_iconst E dX3_parseBarge_34 ki_0 ?_
  refine ra_bipush E dX3_parseBarge_35 kb_99 ?_
  refine ra_callIV (rest := []) E (c_X10_readNumber _ _ _ _ h) (lq_X10 _) cv_X10_readNumber ml_X3_17 (by decide) (lm (by decide)) (fun R => ⟨_, cel_1 tc ad R⟩) rfl rfl rfl (Nat.le_of_ble_eq_true rfl) ⟨Nat.le_of_ble_eq_true rfl, Nat.le_of_ble_eq_true rfl⟩ ⟨Nat.zero_le _, Nat.zero_le _⟩ dX3_parseBarge_37 (fun r9 M8 h => ?_)
  refine ra_istore (L' := [(5, _), (4, _), (3, _), (2, _), (0, _), (1, _)]) E dX3_parseBarge_40 (by decide) rfl ?_
  refine ra_aload_n E dX3_parseBarge_42 rfl 4 rfl ?_
  refine ra_iconst E dX3_parseBarge_43 ki_5 ?_
  refine ra_callVV (rest := []) E (c_X10_readToken _ _ _ h) (lq_X10 _) cv_X10_readToken ml_X3_27 (by decide) (lm (by decide)) (fun R => ⟨_, cel_1 tc ad R⟩) rfl rfl rfl (Nat.le_of_ble_eq_true rfl) ⟨Nat.le_of_ble_eq_true rfl, Nat.le_of_ble_eq_true rfl⟩ ⟨Nat.zero_le _, Nat.zero_le _⟩ dX3_parseBarge_44 (fun M10 h => ?_)
  refine ra_aload_n E dX3_parseBarge_47 rfl 5 rfl ?_
  refine ra_iload_n E dX3_parseBarge_48 rfl 3 rfl ?_
  refine ra_iload_n E dX3_parseBarge_49 rfl 2 rfl ?_
  refine ra_iload E dX3_parseBarge_50 1 rfl ?_
  refine ra_iload E dX3_parseBarge_52 0 rfl ?_
  refine ra_callVV (rest := []) E (c_X2_addBarge _ h1 _ _ _ _ _ _ h) (lq_X2 _) cv_X2_addBarge ml_X3_94 (by decide) (lm (h1.add (j := 0) (by decide))) (fun R => ⟨_, cel_canal tc ad h1 R⟩) rfl rfl rfl (Nat.le_of_ble_eq_true rfl) ⟨Nat.le_of_ble_eq_true rfl, Nat.le_of_ble_eq_true rfl⟩ ⟨Nat.zero_le _, Nat.zero_le _⟩ dX3_parseBarge_54 (fun M11 h => ?_)
  exact ra_vret E hr dX3_parseBarge_57 h
def f_X3_parseOrder (a1 : Nat) (M : TM) (K : TM → Prop) : Prop := f_X10_advance M (fun M1 => f_X10_readNumber (0 : Int32) ((M1 a1 0) - (1 : Int32)) M1 (fun r3 M2 => f_X10_readNumber (1 : Int32) (4 : Int32) M2 (fun r5 M4 => f_X10_readNumber (1 : Int32) (6 : Int32) M4 (fun r7 M6 => f_X10_readNumber (1 : Int32) (500 : Int32) M6 (fun r9 M8 => f_X10_readToken (5 : Int32) M8 (fun M10 => f_X2_addOrder a1 r3 r5 r7 r9 M10 (fun M11 => K M11)))))))
set_option maxRecDepth 100000 in
set_option maxHeartbeats 4000000 in
theorem c_X3_parseOrder {ad : Nat → Nat} (a1 : Nat) (h1 : IsCanal a1) (M : TM) (K : TM → Prop) (h : f_X3_parseOrder a1 M K) : MV yX3_parseOrder cX3_parseOrder 6 3 ad [.ref (ad 1), .ref (ad a1)] M K := by
  refine MV_of RX3 rfl (by decide +kernel) (Nat.le_of_ble_eq_true rfl) (fun p l e s m below meth c D tc E hr => ?_)
  unfold f_X3_parseOrder at h
  refine ra_aload_n E dX3_parseOrder_0 rfl 0 rfl ?_
  refine ra_callVV (rest := []) E (c_X10_advance _ _ h) (lq_X10 _) cv_X10_advance ml_X3_56 (by decide) (lm (by decide)) (fun R => ⟨_, cel_1 tc ad R⟩) rfl rfl rfl (Nat.le_of_ble_eq_true rfl) ⟨Nat.le_of_ble_eq_true rfl, Nat.le_of_ble_eq_true rfl⟩ ⟨Nat.zero_le _, Nat.zero_le _⟩ dX3_parseOrder_1 (fun M1 h => ?_)
  refine ra_aload_n E dX3_parseOrder_4 rfl 0 rfl ?_
  refine ra_iconst E dX3_parseOrder_5 ki_0 ?_
  refine ra_aload_n E dX3_parseOrder_6 rfl 1 rfl ?_
  refine gf_X2_0 E h1 fl_X3_63 dX3_parseOrder_7 ?_
  refine ra_iconst E dX3_parseOrder_10 ki_1 ?_
  refine ra_isub E dX3_parseOrder_11 ?_
  refine ra_callIV (rest := []) E (c_X10_readNumber _ _ _ _ h) (lq_X10 _) cv_X10_readNumber ml_X3_17 (by decide) (lm (by decide)) (fun R => ⟨_, cel_1 tc ad R⟩) rfl rfl rfl (Nat.le_of_ble_eq_true rfl) ⟨Nat.le_of_ble_eq_true rfl, Nat.le_of_ble_eq_true rfl⟩ ⟨Nat.zero_le _, Nat.zero_le _⟩ dX3_parseOrder_12 (fun r3 M2 h => ?_)
  refine ra_istore_n (L' := [(2, _), (0, _), (1, _)]) E dX3_parseOrder_15 rfl (by decide) rfl ?_
  refine ra_aload_n E dX3_parseOrder_16 rfl 1 rfl ?_
  refine ra_iconst E dX3_parseOrder_17 ki_1 ?_
  refine ra_iconst E dX3_parseOrder_18 ki_4 ?_
  refine ra_callIV (rest := []) E (c_X10_readNumber _ _ _ _ h) (lq_X10 _) cv_X10_readNumber ml_X3_17 (by decide) (lm (by decide)) (fun R => ⟨_, cel_1 tc ad R⟩) rfl rfl rfl (Nat.le_of_ble_eq_true rfl) ⟨Nat.le_of_ble_eq_true rfl, Nat.le_of_ble_eq_true rfl⟩ ⟨Nat.zero_le _, Nat.zero_le _⟩ dX3_parseOrder_19 (fun r5 M4 h => ?_)
  refine ra_istore_n (L' := [(3, _), (2, _), (0, _), (1, _)]) E dX3_parseOrder_22 rfl (by decide) rfl ?_
  refine ra_aload_n E dX3_parseOrder_23 rfl 2 rfl ?_
  refine ra_iconst E dX3_parseOrder_24 ki_1 ?_
  refine ra_bipush E dX3_parseOrder_25 kb_6 ?_
  refine ra_callIV (rest := []) E (c_X10_readNumber _ _ _ _ h) (lq_X10 _) cv_X10_readNumber ml_X3_17 (by decide) (lm (by decide)) (fun R => ⟨_, cel_1 tc ad R⟩) rfl rfl rfl (Nat.le_of_ble_eq_true rfl) ⟨Nat.le_of_ble_eq_true rfl, Nat.le_of_ble_eq_true rfl⟩ ⟨Nat.zero_le _, Nat.zero_le _⟩ dX3_parseOrder_27 (fun r7 M6 h => ?_)
  refine ra_istore (L' := [(4, _), (3, _), (2, _), (0, _), (1, _)]) E dX3_parseOrder_30 (by decide) rfl ?_
  refine ra_aload_n E dX3_parseOrder_32 rfl 3 rfl ?_
  refine ra_iconst E dX3_parseOrder_33 ki_1 ?_
  refine ra_sipush E dX3_parseOrder_34 ks_500 ?_
  refine ra_callIV (rest := []) E (c_X10_readNumber _ _ _ _ h) (lq_X10 _) cv_X10_readNumber ml_X3_17 (by decide) (lm (by decide)) (fun R => ⟨_, cel_1 tc ad R⟩) rfl rfl rfl (Nat.le_of_ble_eq_true rfl) ⟨Nat.le_of_ble_eq_true rfl, Nat.le_of_ble_eq_true rfl⟩ ⟨Nat.zero_le _, Nat.zero_le _⟩ dX3_parseOrder_37 (fun r9 M8 h => ?_)
  refine ra_istore (L' := [(5, _), (4, _), (3, _), (2, _), (0, _), (1, _)]) E dX3_parseOrder_40 (by decide) rfl ?_
  refine ra_aload_n E dX3_parseOrder_42 rfl 4 rfl ?_
  refine ra_iconst E dX3_parseOrder_43 ki_5 ?_
  refine ra_callVV (rest := []) E (c_X10_readToken _ _ _ h) (lq_X10 _) cv_X10_readToken ml_X3_27 (by decide) (lm (by decide)) (fun R => ⟨_, cel_1 tc ad R⟩) rfl rfl rfl (Nat.le_of_ble_eq_true rfl) ⟨Nat.le_of_ble_eq_true rfl, Nat.le_of_ble_eq_true rfl⟩ ⟨Nat.zero_le _, Nat.zero_le _⟩ dX3_parseOrder_44 (fun M10 h => ?_)
  refine ra_aload_n E dX3_parseOrder_47 rfl 5 rfl ?_
  refine ra_iload_n E dX3_parseOrder_48 rfl 3 rfl ?_
  refine ra_iload_n E dX3_parseOrder_49 rfl 2 rfl ?_
  refine ra_iload E dX3_parseOrder_50 1 rfl ?_
  refine ra_iload E dX3_parseOrder_52 0 rfl ?_
  refine ra_callVV (rest := []) E (c_X2_addOrder _ h1 _ _ _ _ _ _ h) (lq_X2 _) cv_X2_addOrder ml_X3_103 (by decide) (lm (h1.add (j := 0) (by decide))) (fun R => ⟨_, cel_canal tc ad h1 R⟩) rfl rfl rfl (Nat.le_of_ble_eq_true rfl) ⟨Nat.le_of_ble_eq_true rfl, Nat.le_of_ble_eq_true rfl⟩ ⟨Nat.zero_le _, Nat.zero_le _⟩ dX3_parseOrder_54 (fun M11 h => ?_)
  exact ra_vret E hr dX3_parseOrder_57 h
def f_X10_begin (p1 : Int32) (M : TM) (K : TM → Prop) : Prop := ∀ M1, M1 = u2 M 1 2 (if (500 : Int32) < p1 then (500 : Int32) else p1) → ∀ M2, M2 = u2 M1 1 5 (0 : Int32) → ∀ M3, M3 = u2 M2 1 6 (0 : Int32) → ∀ M4, M4 = u2 M3 1 7 (-1 : Int32) → f_X10_advance M4 (fun M5 => K M5)
set_option maxRecDepth 100000 in
set_option maxHeartbeats 4000000 in
theorem c_X10_begin {ad : Nat → Nat} (p1 : Int32) (M : TM) (K : TM → Prop) (h : f_X10_begin p1 M K) : MV yX10_begin cX10_begin 2 2 ad [.ref (ad 1), .int p1] M K := by
  refine MV_of RX10 rfl (by decide +kernel) (Nat.le_of_ble_eq_true rfl) (fun p l e s m below meth c D tc E hr => ?_)
  unfold f_X10_begin at h
  refine ra_aload_n E dX10_begin_0 rfl 0 rfl ?_
  refine ra_iload_n E dX10_begin_1 rfl 1 rfl ?_
  refine ra_aload_n E dX10_begin_2 rfl 0 rfl ?_
  refine gf_X10_0 E fl_X10_9 dX10_begin_3 ?_
  refine ra_alen (n := 500) (v := 500) E (lm (by decide)) (fun R => ⟨_, (cel_2 tc ad) R, rfl⟩) rfl (by decide) dX10_begin_6 ?_
  refine ra_mmin E ml_X10_50 ⟨Nat.le_of_ble_eq_true rfl, Nat.le_of_ble_eq_true rfl⟩ ⟨Nat.zero_le _, Nat.zero_le _⟩ dX10_begin_7 ?_
  refine pf_X10_2 E fl_X10_19 dX10_begin_10 ?_
  replace h := h _ rfl
  refine ra_aload_n E dX10_begin_13 rfl 0 rfl ?_
  refine ra_iconst E dX10_begin_14 ki_0 ?_
  refine pf_X10_5 E fl_X10_28 dX10_begin_15 ?_
  replace h := h _ rfl
  refine ra_aload_n E dX10_begin_18 rfl 0 rfl ?_
  refine ra_iconst E dX10_begin_19 ki_0 ?_
  refine pf_X10_6 E fl_X10_31 dX10_begin_20 ?_
  replace h := h _ rfl
  refine ra_aload_n E dX10_begin_23 rfl 0 rfl ?_
  refine ra_iconst E dX10_begin_24 ki_m1 ?_
  refine pf_X10_7 E fl_X10_34 dX10_begin_25 ?_
  replace h := h _ rfl
  refine ra_aload_n E dX10_begin_28 rfl 0 rfl ?_
  refine ra_callVV (rest := []) E (c_X10_advance _ _ h) (lq_X10 _) cv_X10_advance ml_X10_56 (by decide) (lm (by decide)) (fun R => ⟨_, cel_1 tc ad R⟩) rfl rfl rfl (Nat.le_of_ble_eq_true rfl) ⟨Nat.le_of_ble_eq_true rfl, Nat.le_of_ble_eq_true rfl⟩ ⟨Nat.zero_le _, Nat.zero_le _⟩ dX10_begin_29 (fun M5 h => ?_)
  exact ra_vret E hr dX10_begin_32 h
def f_X12_placeOf (p1 : Int32) (M : TM) (K : Int32 → TM → Prop) : Prop := f_X12_bargeAt p1 M (fun o2 M1 => (∃ x3, IsBarge x3 ∧ o2 = some x3) ∧ (∀ x3, IsBarge x3 → o2 = some x3 → K (M1 x3 0) M1))
set_option maxRecDepth 100000 in
set_option maxHeartbeats 4000000 in
theorem c_X12_placeOf {ad : Nat → Nat} (p1 : Int32) (M : TM) (K : Int32 → TM → Prop) (h : f_X12_placeOf p1 M K) : MI yX12_placeOf cX12_placeOf 2 (some .int) 3 ad [.ref (ad 0), .int p1] M K := by
  refine MI_of RX12 rfl (by decide +kernel) (Nat.le_of_ble_eq_true rfl) (fun p l e s m below meth c D tc E hr => ?_)
  unfold f_X12_placeOf at h
  refine ra_aload_n E dX12_placeOf_0 rfl 0 rfl ?_
  refine ra_iload_n E dX12_placeOf_1 rfl 1 rfl ?_
  refine ra_callAV (rest := []) E (c_X12_bargeAt _ _ _ h) (lq_X12 _) cv_X12_bargeAt ml_X12_144 (by decide) (lm (by decide)) (fun R => ⟨_, cel_0 tc ad R⟩) rfl rfl rfl (Nat.le_of_ble_eq_true rfl) ⟨Nat.le_of_ble_eq_true rfl, Nat.le_of_ble_eq_true rfl⟩ ⟨Nat.zero_le _, Nat.zero_le _⟩ dX12_placeOf_2 (fun o2 M1 h => ?_)
  obtain ⟨q5, q7⟩ := h
  obtain ⟨x3, g4, q5⟩ := q5
  replace h := q7 x3 g4 q5
  subst q5
  refine gf_X1_0 E g4 fl_X12_148 dX12_placeOf_5 ?_
  exact ra_iret E hr dX12_placeOf_8 h
def f_X12_targetOf (p1 : Int32) (M : TM) (K : Int32 → TM → Prop) : Prop := f_X12_bargeAt p1 M (fun o2 M1 => (∃ x3, IsBarge x3 ∧ o2 = some x3) ∧ (∀ x3, IsBarge x3 → o2 = some x3 → K (M1 x3 1) M1))
set_option maxRecDepth 100000 in
set_option maxHeartbeats 4000000 in
theorem c_X12_targetOf {ad : Nat → Nat} (p1 : Int32) (M : TM) (K : Int32 → TM → Prop) (h : f_X12_targetOf p1 M K) : MI yX12_targetOf cX12_targetOf 2 (some .int) 3 ad [.ref (ad 0), .int p1] M K := by
  refine MI_of RX12 rfl (by decide +kernel) (Nat.le_of_ble_eq_true rfl) (fun p l e s m below meth c D tc E hr => ?_)
  unfold f_X12_targetOf at h
  refine ra_aload_n E dX12_targetOf_0 rfl 0 rfl ?_
  refine ra_iload_n E dX12_targetOf_1 rfl 1 rfl ?_
  refine ra_callAV (rest := []) E (c_X12_bargeAt _ _ _ h) (lq_X12 _) cv_X12_bargeAt ml_X12_144 (by decide) (lm (by decide)) (fun R => ⟨_, cel_0 tc ad R⟩) rfl rfl rfl (Nat.le_of_ble_eq_true rfl) ⟨Nat.le_of_ble_eq_true rfl, Nat.le_of_ble_eq_true rfl⟩ ⟨Nat.zero_le _, Nat.zero_le _⟩ dX12_targetOf_2 (fun o2 M1 h => ?_)
  obtain ⟨q5, q7⟩ := h
  obtain ⟨x3, g4, q5⟩ := q5
  replace h := q7 x3 g4 q5
  subst q5
  refine gf_X1_1 E g4 fl_X12_153 dX12_targetOf_5 ?_
  exact ra_iret E hr dX12_targetOf_8 h
def f_X12_timeInLock (p1 : Int32) (M : TM) (K : Int32 → TM → Prop) : Prop := f_X12_bargeAt p1 M (fun o2 M1 => (∃ x3, IsBarge x3 ∧ o2 = some x3) ∧ (∀ x3, IsBarge x3 → o2 = some x3 → K (M1 x3 3) M1))
set_option maxRecDepth 100000 in
set_option maxHeartbeats 4000000 in
theorem c_X12_timeInLock {ad : Nat → Nat} (p1 : Int32) (M : TM) (K : Int32 → TM → Prop) (h : f_X12_timeInLock p1 M K) : MI yX12_timeInLock cX12_timeInLock 2 (some .int) 3 ad [.ref (ad 0), .int p1] M K := by
  refine MI_of RX12 rfl (by decide +kernel) (Nat.le_of_ble_eq_true rfl) (fun p l e s m below meth c D tc E hr => ?_)
  unfold f_X12_timeInLock at h
  refine ra_aload_n E dX12_timeInLock_0 rfl 0 rfl ?_
  refine ra_iload_n E dX12_timeInLock_1 rfl 1 rfl ?_
  refine ra_callAV (rest := []) E (c_X12_bargeAt _ _ _ h) (lq_X12 _) cv_X12_bargeAt ml_X12_144 (by decide) (lm (by decide)) (fun R => ⟨_, cel_0 tc ad R⟩) rfl rfl rfl (Nat.le_of_ble_eq_true rfl) ⟨Nat.le_of_ble_eq_true rfl, Nat.le_of_ble_eq_true rfl⟩ ⟨Nat.zero_le _, Nat.zero_le _⟩ dX12_timeInLock_2 (fun o2 M1 h => ?_)
  obtain ⟨q5, q7⟩ := h
  obtain ⟨x3, g4, q5⟩ := q5
  replace h := q7 x3 g4 q5
  subst q5
  refine gf_X1_3 E g4 fl_X12_159 dX12_timeInLock_5 ?_
  exact ra_iret E hr dX12_timeInLock_8 h
def f_X12_flour (p1 : Int32) (M : TM) (K : Int32 → TM → Prop) : Prop := f_X12_bargeAt p1 M (fun o2 M1 => (∃ x3, IsBarge x3 ∧ o2 = some x3) ∧ (∀ x3, IsBarge x3 → o2 = some x3 → K (M1 x3 4) M1))
set_option maxRecDepth 100000 in
set_option maxHeartbeats 4000000 in
theorem c_X12_flour {ad : Nat → Nat} (p1 : Int32) (M : TM) (K : Int32 → TM → Prop) (h : f_X12_flour p1 M K) : MI yX12_flour cX12_flour 2 (some .int) 3 ad [.ref (ad 0), .int p1] M K := by
  refine MI_of RX12 rfl (by decide +kernel) (Nat.le_of_ble_eq_true rfl) (fun p l e s m below meth c D tc E hr => ?_)
  unfold f_X12_flour at h
  refine ra_aload_n E dX12_flour_0 rfl 0 rfl ?_
  refine ra_iload_n E dX12_flour_1 rfl 1 rfl ?_
  refine ra_callAV (rest := []) E (c_X12_bargeAt _ _ _ h) (lq_X12 _) cv_X12_bargeAt ml_X12_144 (by decide) (lm (by decide)) (fun R => ⟨_, cel_0 tc ad R⟩) rfl rfl rfl (Nat.le_of_ble_eq_true rfl) ⟨Nat.le_of_ble_eq_true rfl, Nat.le_of_ble_eq_true rfl⟩ ⟨Nat.zero_le _, Nat.zero_le _⟩ dX12_flour_2 (fun o2 M1 h => ?_)
  obtain ⟨q5, q7⟩ := h
  obtain ⟨x3, g4, q5⟩ := q5
  replace h := q7 x3 g4 q5
  subst q5
  refine gf_X1_4 E g4 fl_X12_162 dX12_flour_5 ?_
  exact ra_iret E hr dX12_flour_8 h
def f_X12_cleanPairs (p1 : Int32) (M : TM) (K : Int32 → TM → Prop) : Prop := f_X12_bargeAt p1 M (fun o2 M1 => (∃ x3, IsBarge x3 ∧ o2 = some x3) ∧ (∀ x3, IsBarge x3 → o2 = some x3 → K (M1 x3 5) M1))
set_option maxRecDepth 100000 in
set_option maxHeartbeats 4000000 in
theorem c_X12_cleanPairs {ad : Nat → Nat} (p1 : Int32) (M : TM) (K : Int32 → TM → Prop) (h : f_X12_cleanPairs p1 M K) : MI yX12_cleanPairs cX12_cleanPairs 2 (some .int) 3 ad [.ref (ad 0), .int p1] M K := by
  refine MI_of RX12 rfl (by decide +kernel) (Nat.le_of_ble_eq_true rfl) (fun p l e s m below meth c D tc E hr => ?_)
  unfold f_X12_cleanPairs at h
  refine ra_aload_n E dX12_cleanPairs_0 rfl 0 rfl ?_
  refine ra_iload_n E dX12_cleanPairs_1 rfl 1 rfl ?_
  refine ra_callAV (rest := []) E (c_X12_bargeAt _ _ _ h) (lq_X12 _) cv_X12_bargeAt ml_X12_144 (by decide) (lm (by decide)) (fun R => ⟨_, cel_0 tc ad R⟩) rfl rfl rfl (Nat.le_of_ble_eq_true rfl) ⟨Nat.le_of_ble_eq_true rfl, Nat.le_of_ble_eq_true rfl⟩ ⟨Nat.zero_le _, Nat.zero_le _⟩ dX12_cleanPairs_2 (fun o2 M1 h => ?_)
  obtain ⟨q5, q7⟩ := h
  obtain ⟨x3, g4, q5⟩ := q5
  replace h := q7 x3 g4 q5
  subst q5
  refine gf_X1_5 E g4 fl_X12_165 dX12_cleanPairs_5 ?_
  exact ra_iret E hr dX12_cleanPairs_8 h
def f_X12_dirtyPairs (p1 : Int32) (M : TM) (K : Int32 → TM → Prop) : Prop := f_X12_bargeAt p1 M (fun o2 M1 => (∃ x3, IsBarge x3 ∧ o2 = some x3) ∧ (∀ x3, IsBarge x3 → o2 = some x3 → K (M1 x3 6) M1))
set_option maxRecDepth 100000 in
set_option maxHeartbeats 4000000 in
theorem c_X12_dirtyPairs {ad : Nat → Nat} (p1 : Int32) (M : TM) (K : Int32 → TM → Prop) (h : f_X12_dirtyPairs p1 M K) : MI yX12_dirtyPairs cX12_dirtyPairs 2 (some .int) 3 ad [.ref (ad 0), .int p1] M K := by
  refine MI_of RX12 rfl (by decide +kernel) (Nat.le_of_ble_eq_true rfl) (fun p l e s m below meth c D tc E hr => ?_)
  unfold f_X12_dirtyPairs at h
  refine ra_aload_n E dX12_dirtyPairs_0 rfl 0 rfl ?_
  refine ra_iload_n E dX12_dirtyPairs_1 rfl 1 rfl ?_
  refine ra_callAV (rest := []) E (c_X12_bargeAt _ _ _ h) (lq_X12 _) cv_X12_bargeAt ml_X12_144 (by decide) (lm (by decide)) (fun R => ⟨_, cel_0 tc ad R⟩) rfl rfl rfl (Nat.le_of_ble_eq_true rfl) ⟨Nat.le_of_ble_eq_true rfl, Nat.le_of_ble_eq_true rfl⟩ ⟨Nat.zero_le _, Nat.zero_le _⟩ dX12_dirtyPairs_2 (fun o2 M1 h => ?_)
  obtain ⟨q5, q7⟩ := h
  obtain ⟨x3, g4, q5⟩ := q5
  replace h := q7 x3 g4 q5
  subst q5
  refine gf_X1_6 E g4 fl_X12_168 dX12_dirtyPairs_5 ?_
  exact ra_iret E hr dX12_dirtyPairs_8 h
def f_X12_queueLength (p1 : Int32) (M : TM) (K : Int32 → TM → Prop) : Prop := f_X12_bargeAt p1 M (fun o2 M1 => (∃ x3, IsBarge x3 ∧ o2 = some x3) ∧ (∀ x3, IsBarge x3 → o2 = some x3 → K (M1 x3 8) M1))
set_option maxRecDepth 100000 in
set_option maxHeartbeats 4000000 in
theorem c_X12_queueLength {ad : Nat → Nat} (p1 : Int32) (M : TM) (K : Int32 → TM → Prop) (h : f_X12_queueLength p1 M K) : MI yX12_queueLength cX12_queueLength 2 (some .int) 3 ad [.ref (ad 0), .int p1] M K := by
  refine MI_of RX12 rfl (by decide +kernel) (Nat.le_of_ble_eq_true rfl) (fun p l e s m below meth c D tc E hr => ?_)
  unfold f_X12_queueLength at h
  refine ra_aload_n E dX12_queueLength_0 rfl 0 rfl ?_
  refine ra_iload_n E dX12_queueLength_1 rfl 1 rfl ?_
  refine ra_callAV (rest := []) E (c_X12_bargeAt _ _ _ h) (lq_X12 _) cv_X12_bargeAt ml_X12_144 (by decide) (lm (by decide)) (fun R => ⟨_, cel_0 tc ad R⟩) rfl rfl rfl (Nat.le_of_ble_eq_true rfl) ⟨Nat.le_of_ble_eq_true rfl, Nat.le_of_ble_eq_true rfl⟩ ⟨Nat.zero_le _, Nat.zero_le _⟩ dX12_queueLength_2 (fun o2 M1 h => ?_)
  obtain ⟨q5, q7⟩ := h
  obtain ⟨x3, g4, q5⟩ := q5
  replace h := q7 x3 g4 q5
  subst q5
  refine gf_X1_8 E g4 fl_X12_171 dX12_queueLength_5 ?_
  exact ra_iret E hr dX12_queueLength_8 h
def f_X12_queuedOrder (p1 : Int32) (p2 : Int32) (M : TM) (K : Int32 → TM → Prop) : Prop := f_X12_bargeAt p1 M (fun o2 M1 => (∃ x3, IsBarge x3 ∧ o2 = some x3) ∧ (∀ x3, IsBarge x3 → o2 = some x3 → f_X1_queuedAt x3 p2 M1 (fun r9 M8 => K r9 M8)))
set_option maxRecDepth 100000 in
set_option maxHeartbeats 4000000 in
theorem c_X12_queuedOrder {ad : Nat → Nat} (p1 : Int32) (p2 : Int32) (M : TM) (K : Int32 → TM → Prop) (h : f_X12_queuedOrder p1 p2 M K) : MI yX12_queuedOrder cX12_queuedOrder 3 (some .int) 3 ad [.ref (ad 0), .int p1, .int p2] M K := by
  refine MI_of RX12 rfl (by decide +kernel) (Nat.le_of_ble_eq_true rfl) (fun p l e s m below meth c D tc E hr => ?_)
  unfold f_X12_queuedOrder at h
  refine ra_aload_n E dX12_queuedOrder_0 rfl 0 rfl ?_
  refine ra_iload_n E dX12_queuedOrder_1 rfl 1 rfl ?_
  refine ra_callAV (rest := []) E (c_X12_bargeAt _ _ _ h) (lq_X12 _) cv_X12_bargeAt ml_X12_144 (by decide) (lm (by decide)) (fun R => ⟨_, cel_0 tc ad R⟩) rfl rfl rfl (Nat.le_of_ble_eq_true rfl) ⟨Nat.le_of_ble_eq_true rfl, Nat.le_of_ble_eq_true rfl⟩ ⟨Nat.zero_le _, Nat.zero_le _⟩ dX12_queuedOrder_2 (fun o2 M1 h => ?_)
  obtain ⟨q5, q7⟩ := h
  obtain ⟨x3, g4, q5⟩ := q5
  replace h := q7 x3 g4 q5
  subst q5
  refine ra_iload_n E dX12_queuedOrder_5 rfl 2 rfl ?_
  refine ra_callIV (rest := []) E (c_X1_queuedAt _ g4 _ _ _ h) (lq_X1 _) cv_X1_queuedAt ml_X12_174 (by decide) (lm (Nat.lt_of_succ_lt g4.lt)) (fun R => ⟨_, cel_barge tc ad g4 R⟩) rfl rfl rfl (Nat.le_of_ble_eq_true rfl) ⟨Nat.le_of_ble_eq_true rfl, Nat.le_of_ble_eq_true rfl⟩ ⟨Nat.zero_le _, Nat.zero_le _⟩ dX12_queuedOrder_6 (fun r9 M8 h => ?_)
  exact ra_iret E hr dX12_queuedOrder_9 h
def f_X12_readyCount (p1 : Int32) (M : TM) (K : Int32 → TM → Prop) : Prop := f_X12_requireBarge p1 M (fun M1 => vp_in (M1 0 5) 11 ∧ f_X2_countHeldBy (27 + 61 * (M1 0 5).toNatClampNeg) p1 M1 (fun r4 M3 => f_X12_bargeAt p1 M3 (fun o6 M5 => (∃ x7, IsBarge x7 ∧ o6 = some x7) ∧ (∀ x7, IsBarge x7 → o6 = some x7 → K (r4 - (M5 x7 8)) M5))))
set_option maxRecDepth 100000 in
set_option maxHeartbeats 4000000 in
theorem c_X12_readyCount {ad : Nat → Nat} (p1 : Int32) (M : TM) (K : Int32 → TM → Prop) (h : f_X12_readyCount p1 M K) : MI yX12_readyCount cX12_readyCount 2 (some .int) 3 ad [.ref (ad 0), .int p1] M K := by
  refine MI_of RX12 rfl (by decide +kernel) (Nat.le_of_ble_eq_true rfl) (fun p l e s m below meth c D tc E hr => ?_)
  unfold f_X12_readyCount at h
  refine ra_aload_n E dX12_readyCount_0 rfl 0 rfl ?_
  refine ra_iload_n E dX12_readyCount_1 rfl 1 rfl ?_
  refine ra_callVV (rest := []) E (c_X12_requireBarge _ _ _ h) (lq_X12 _) cv_X12_requireBarge ml_X12_177 (by decide) (lm (by decide)) (fun R => ⟨_, cel_0 tc ad R⟩) rfl rfl rfl (Nat.le_of_ble_eq_true rfl) ⟨Nat.le_of_ble_eq_true rfl, Nat.le_of_ble_eq_true rfl⟩ ⟨Nat.zero_le _, Nat.zero_le _⟩ dX12_readyCount_2 (fun M1 h => ?_)
  refine ra_aload_n E dX12_readyCount_5 rfl 0 rfl ?_
  obtain ⟨g2, h⟩ := h
  refine gf_X12_5 E fl_X12_41 dX12_readyCount_6 ?_
  refine ra_iload_n E dX12_readyCount_9 rfl 1 rfl ?_
  refine ra_callIV (rest := []) E (c_X2_countHeldBy _ (isCanal_of g2) _ _ _ h) (lq_X2 _) cv_X2_countHeldBy ml_X12_180 (by decide) (lm ((isCanal_of g2).add (j := 0) (by decide))) (fun R => ⟨_, cel_canal tc ad (isCanal_of g2) R⟩) rfl rfl rfl (Nat.le_of_ble_eq_true rfl) ⟨Nat.le_of_ble_eq_true rfl, Nat.le_of_ble_eq_true rfl⟩ ⟨Nat.zero_le _, Nat.zero_le _⟩ dX12_readyCount_10 (fun r4 M3 h => ?_)
  refine ra_aload_n E dX12_readyCount_13 rfl 0 rfl ?_
  refine ra_iload_n E dX12_readyCount_14 rfl 1 rfl ?_
  refine ra_callAV (rest := [_]) E (c_X12_bargeAt _ _ _ h) (lq_X12 _) cv_X12_bargeAt ml_X12_144 (by decide) (lm (by decide)) (fun R => ⟨_, cel_0 tc ad R⟩) rfl rfl rfl (Nat.le_of_ble_eq_true rfl) ⟨Nat.le_of_ble_eq_true rfl, Nat.le_of_ble_eq_true rfl⟩ ⟨Nat.zero_le _, Nat.zero_le _⟩ dX12_readyCount_15 (fun o6 M5 h => ?_)
  obtain ⟨q9, q11⟩ := h
  obtain ⟨x7, g8, q9⟩ := q9
  replace h := q11 x7 g8 q9
  subst q9
  refine gf_X1_8 E g8 fl_X12_171 dX12_readyCount_18 ?_
  refine ra_isub E dX12_readyCount_21 ?_
  exact ra_iret E hr dX12_readyCount_22 h
def f_X12_flourNeeded (p1 : Int32) (M : TM) (K : Int32 → TM → Prop) : Prop := vp_in (M 0 5) 11 ∧ f_X12_bargeAt p1 M (fun o3 M2 => (∃ x4, IsBarge x4 ∧ o3 = some x4) ∧ (∀ x4, IsBarge x4 → o3 = some x4 → f_X2_bowlsNotBegun (27 + 61 * (M 0 5).toNatClampNeg) x4 M2 (fun r10 M9 => K r10 M9)))
set_option maxRecDepth 100000 in
set_option maxHeartbeats 4000000 in
theorem c_X12_flourNeeded {ad : Nat → Nat} (p1 : Int32) (M : TM) (K : Int32 → TM → Prop) (h : f_X12_flourNeeded p1 M K) : MI yX12_flourNeeded cX12_flourNeeded 2 (some .int) 3 ad [.ref (ad 0), .int p1] M K := by
  refine MI_of RX12 rfl (by decide +kernel) (Nat.le_of_ble_eq_true rfl) (fun p l e s m below meth c D tc E hr => ?_)
  unfold f_X12_flourNeeded at h
  refine ra_aload_n E dX12_flourNeeded_0 rfl 0 rfl ?_
  obtain ⟨g1, h⟩ := h
  refine gf_X12_5 E fl_X12_41 dX12_flourNeeded_1 ?_
  refine ra_aload_n E dX12_flourNeeded_4 rfl 0 rfl ?_
  refine ra_iload_n E dX12_flourNeeded_5 rfl 1 rfl ?_
  refine ra_callAV (rest := [_]) E (c_X12_bargeAt _ _ _ h) (lq_X12 _) cv_X12_bargeAt ml_X12_144 (by decide) (lm (by decide)) (fun R => ⟨_, cel_0 tc ad R⟩) rfl rfl rfl (Nat.le_of_ble_eq_true rfl) ⟨Nat.le_of_ble_eq_true rfl, Nat.le_of_ble_eq_true rfl⟩ ⟨Nat.zero_le _, Nat.zero_le _⟩ dX12_flourNeeded_6 (fun o3 M2 h => ?_)
  obtain ⟨q6, q8⟩ := h
  obtain ⟨x4, g5, q6⟩ := q6
  replace h := q8 x4 g5 q6
  subst q6
  refine ra_callIV (rest := []) E (c_X2_bowlsNotBegun _ (isCanal_of g1) _ g5 _ _ h) (lq_X2 _) cv_X2_bowlsNotBegun ml_X12_183 (by decide) (lm ((isCanal_of g1).add (j := 0) (by decide))) (fun R => ⟨_, cel_canal tc ad (isCanal_of g1) R⟩) rfl rfl rfl (Nat.le_of_ble_eq_true rfl) ⟨Nat.le_of_ble_eq_true rfl, Nat.le_of_ble_eq_true rfl⟩ ⟨Nat.zero_le _, Nat.zero_le _⟩ dX12_flourNeeded_9 (fun r10 M9 h => ?_)
  exact ra_iret E hr dX12_flourNeeded_12 h
def f_X12_orderPlace (p1 : Int32) (M : TM) (K : Int32 → TM → Prop) : Prop := f_X12_orderAt p1 M (fun o2 M1 => (∃ x3, IsOrder x3 ∧ o2 = some x3) ∧ (∀ x3, IsOrder x3 → o2 = some x3 → K (M1 x3 0) M1))
set_option maxRecDepth 100000 in
set_option maxHeartbeats 4000000 in
theorem c_X12_orderPlace {ad : Nat → Nat} (p1 : Int32) (M : TM) (K : Int32 → TM → Prop) (h : f_X12_orderPlace p1 M K) : MI yX12_orderPlace cX12_orderPlace 2 (some .int) 3 ad [.ref (ad 0), .int p1] M K := by
  refine MI_of RX12 rfl (by decide +kernel) (Nat.le_of_ble_eq_true rfl) (fun p l e s m below meth c D tc E hr => ?_)
  unfold f_X12_orderPlace at h
  refine ra_aload_n E dX12_orderPlace_0 rfl 0 rfl ?_
  refine ra_iload_n E dX12_orderPlace_1 rfl 1 rfl ?_
  refine ra_callAV (rest := []) E (c_X12_orderAt _ _ _ h) (lq_X12 _) cv_X12_orderAt ml_X12_190 (by decide) (lm (by decide)) (fun R => ⟨_, cel_0 tc ad R⟩) rfl rfl rfl (Nat.le_of_ble_eq_true rfl) ⟨Nat.le_of_ble_eq_true rfl, Nat.le_of_ble_eq_true rfl⟩ ⟨Nat.zero_le _, Nat.zero_le _⟩ dX12_orderPlace_2 (fun o2 M1 h => ?_)
  obtain ⟨q5, q7⟩ := h
  obtain ⟨x3, g4, q5⟩ := q5
  replace h := q7 x3 g4 q5
  subst q5
  refine gf_X6_0 E g4 fl_X12_194 dX12_orderPlace_5 ?_
  exact ra_iret E hr dX12_orderPlace_8 h
def f_X12_bowls (p1 : Int32) (M : TM) (K : Int32 → TM → Prop) : Prop := f_X12_orderAt p1 M (fun o2 M1 => (∃ x3, IsOrder x3 ∧ o2 = some x3) ∧ (∀ x3, IsOrder x3 → o2 = some x3 → K (M1 x3 1) M1))
set_option maxRecDepth 100000 in
set_option maxHeartbeats 4000000 in
theorem c_X12_bowls {ad : Nat → Nat} (p1 : Int32) (M : TM) (K : Int32 → TM → Prop) (h : f_X12_bowls p1 M K) : MI yX12_bowls cX12_bowls 2 (some .int) 3 ad [.ref (ad 0), .int p1] M K := by
  refine MI_of RX12 rfl (by decide +kernel) (Nat.le_of_ble_eq_true rfl) (fun p l e s m below meth c D tc E hr => ?_)
  unfold f_X12_bowls at h
  refine ra_aload_n E dX12_bowls_0 rfl 0 rfl ?_
  refine ra_iload_n E dX12_bowls_1 rfl 1 rfl ?_
  refine ra_callAV (rest := []) E (c_X12_orderAt _ _ _ h) (lq_X12 _) cv_X12_orderAt ml_X12_190 (by decide) (lm (by decide)) (fun R => ⟨_, cel_0 tc ad R⟩) rfl rfl rfl (Nat.le_of_ble_eq_true rfl) ⟨Nat.le_of_ble_eq_true rfl, Nat.le_of_ble_eq_true rfl⟩ ⟨Nat.zero_le _, Nat.zero_le _⟩ dX12_bowls_2 (fun o2 M1 h => ?_)
  obtain ⟨q5, q7⟩ := h
  obtain ⟨x3, g4, q5⟩ := q5
  replace h := q7 x3 g4 q5
  subst q5
  refine gf_X6_1 E g4 fl_X12_197 dX12_bowls_5 ?_
  exact ra_iret E hr dX12_bowls_8 h
def f_X12_pullsLeft (p1 : Int32) (M : TM) (K : Int32 → TM → Prop) : Prop := f_X12_orderAt p1 M (fun o2 M1 => (∃ x3, IsOrder x3 ∧ o2 = some x3) ∧ (∀ x3, IsOrder x3 → o2 = some x3 → K (M1 x3 3) M1))
set_option maxRecDepth 100000 in
set_option maxHeartbeats 4000000 in
theorem c_X12_pullsLeft {ad : Nat → Nat} (p1 : Int32) (M : TM) (K : Int32 → TM → Prop) (h : f_X12_pullsLeft p1 M K) : MI yX12_pullsLeft cX12_pullsLeft 2 (some .int) 3 ad [.ref (ad 0), .int p1] M K := by
  refine MI_of RX12 rfl (by decide +kernel) (Nat.le_of_ble_eq_true rfl) (fun p l e s m below meth c D tc E hr => ?_)
  unfold f_X12_pullsLeft at h
  refine ra_aload_n E dX12_pullsLeft_0 rfl 0 rfl ?_
  refine ra_iload_n E dX12_pullsLeft_1 rfl 1 rfl ?_
  refine ra_callAV (rest := []) E (c_X12_orderAt _ _ _ h) (lq_X12 _) cv_X12_orderAt ml_X12_190 (by decide) (lm (by decide)) (fun R => ⟨_, cel_0 tc ad R⟩) rfl rfl rfl (Nat.le_of_ble_eq_true rfl) ⟨Nat.le_of_ble_eq_true rfl, Nat.le_of_ble_eq_true rfl⟩ ⟨Nat.zero_le _, Nat.zero_le _⟩ dX12_pullsLeft_2 (fun o2 M1 h => ?_)
  obtain ⟨q5, q7⟩ := h
  obtain ⟨x3, g4, q5⟩ := q5
  replace h := q7 x3 g4 q5
  subst q5
  refine gf_X6_3 E g4 fl_X12_200 dX12_pullsLeft_5 ?_
  exact ra_iret E hr dX12_pullsLeft_8 h
def f_X12_deadline (p1 : Int32) (M : TM) (K : Int32 → TM → Prop) : Prop := f_X12_orderAt p1 M (fun o2 M1 => (∃ x3, IsOrder x3 ∧ o2 = some x3) ∧ (∀ x3, IsOrder x3 → o2 = some x3 → K (M1 x3 4) M1))
set_option maxRecDepth 100000 in
set_option maxHeartbeats 4000000 in
theorem c_X12_deadline {ad : Nat → Nat} (p1 : Int32) (M : TM) (K : Int32 → TM → Prop) (h : f_X12_deadline p1 M K) : MI yX12_deadline cX12_deadline 2 (some .int) 3 ad [.ref (ad 0), .int p1] M K := by
  refine MI_of RX12 rfl (by decide +kernel) (Nat.le_of_ble_eq_true rfl) (fun p l e s m below meth c D tc E hr => ?_)
  unfold f_X12_deadline at h
  refine ra_aload_n E dX12_deadline_0 rfl 0 rfl ?_
  refine ra_iload_n E dX12_deadline_1 rfl 1 rfl ?_
  refine ra_callAV (rest := []) E (c_X12_orderAt _ _ _ h) (lq_X12 _) cv_X12_orderAt ml_X12_190 (by decide) (lm (by decide)) (fun R => ⟨_, cel_0 tc ad R⟩) rfl rfl rfl (Nat.le_of_ble_eq_true rfl) ⟨Nat.le_of_ble_eq_true rfl, Nat.le_of_ble_eq_true rfl⟩ ⟨Nat.zero_le _, Nat.zero_le _⟩ dX12_deadline_2 (fun o2 M1 h => ?_)
  obtain ⟨q5, q7⟩ := h
  obtain ⟨x3, g4, q5⟩ := q5
  replace h := q7 x3 g4 q5
  subst q5
  refine gf_X6_4 E g4 fl_X12_203 dX12_deadline_5 ?_
  exact ra_iret E hr dX12_deadline_8 h
def f_X12_price (p1 : Int32) (M : TM) (K : Int32 → TM → Prop) : Prop := f_X12_orderAt p1 M (fun o2 M1 => (∃ x3, IsOrder x3 ∧ o2 = some x3) ∧ (∀ x3, IsOrder x3 → o2 = some x3 → f_X6_worth x3 M1 (fun r9 M8 => K r9 M8)))
set_option maxRecDepth 100000 in
set_option maxHeartbeats 4000000 in
theorem c_X12_price {ad : Nat → Nat} (p1 : Int32) (M : TM) (K : Int32 → TM → Prop) (h : f_X12_price p1 M K) : MI yX12_price cX12_price 2 (some .int) 3 ad [.ref (ad 0), .int p1] M K := by
  refine MI_of RX12 rfl (by decide +kernel) (Nat.le_of_ble_eq_true rfl) (fun p l e s m below meth c D tc E hr => ?_)
  unfold f_X12_price at h
  refine ra_aload_n E dX12_price_0 rfl 0 rfl ?_
  refine ra_iload_n E dX12_price_1 rfl 1 rfl ?_
  refine ra_callAV (rest := []) E (c_X12_orderAt _ _ _ h) (lq_X12 _) cv_X12_orderAt ml_X12_190 (by decide) (lm (by decide)) (fun R => ⟨_, cel_0 tc ad R⟩) rfl rfl rfl (Nat.le_of_ble_eq_true rfl) ⟨Nat.le_of_ble_eq_true rfl, Nat.le_of_ble_eq_true rfl⟩ ⟨Nat.zero_le _, Nat.zero_le _⟩ dX12_price_2 (fun o2 M1 h => ?_)
  obtain ⟨q5, q7⟩ := h
  obtain ⟨x3, g4, q5⟩ := q5
  replace h := q7 x3 g4 q5
  subst q5
  refine ra_callIV (rest := []) E (c_X6_worth _ g4 _ _ h) (lq_X6 _) cv_X6_worth ml_X12_206 (by decide) (lm g4.lt) (fun R => ⟨_, cel_order tc ad g4 R⟩) rfl rfl rfl (Nat.le_of_ble_eq_true rfl) ⟨Nat.le_of_ble_eq_true rfl, Nat.le_of_ble_eq_true rfl⟩ ⟨Nat.zero_le _, Nat.zero_le _⟩ dX12_price_5 (fun r9 M8 h => ?_)
  exact ra_iret E hr dX12_price_8 h
def f_X12_bargeOf (p1 : Int32) (M : TM) (K : Int32 → TM → Prop) : Prop := f_X12_orderAt p1 M (fun o2 M1 => (∃ x3, IsOrder x3 ∧ o2 = some x3) ∧ (∀ x3, IsOrder x3 → o2 = some x3 → K (M1 x3 7) M1))
set_option maxRecDepth 100000 in
set_option maxHeartbeats 4000000 in
theorem c_X12_bargeOf {ad : Nat → Nat} (p1 : Int32) (M : TM) (K : Int32 → TM → Prop) (h : f_X12_bargeOf p1 M K) : MI yX12_bargeOf cX12_bargeOf 2 (some .int) 3 ad [.ref (ad 0), .int p1] M K := by
  refine MI_of RX12 rfl (by decide +kernel) (Nat.le_of_ble_eq_true rfl) (fun p l e s m below meth c D tc E hr => ?_)
  unfold f_X12_bargeOf at h
  refine ra_aload_n E dX12_bargeOf_0 rfl 0 rfl ?_
  refine ra_iload_n E dX12_bargeOf_1 rfl 1 rfl ?_
  refine ra_callAV (rest := []) E (c_X12_orderAt _ _ _ h) (lq_X12 _) cv_X12_orderAt ml_X12_190 (by decide) (lm (by decide)) (fun R => ⟨_, cel_0 tc ad R⟩) rfl rfl rfl (Nat.le_of_ble_eq_true rfl) ⟨Nat.le_of_ble_eq_true rfl, Nat.le_of_ble_eq_true rfl⟩ ⟨Nat.zero_le _, Nat.zero_le _⟩ dX12_bargeOf_2 (fun o2 M1 h => ?_)
  obtain ⟨q5, q7⟩ := h
  obtain ⟨x3, g4, q5⟩ := q5
  replace h := q7 x3 g4 q5
  subst q5
  refine gf_X6_7 E g4 fl_X12_209 dX12_bargeOf_5 ?_
  exact ra_iret E hr dX12_bargeOf_8 h
def f_X12_isOpen (p1 : Int32) (M : TM) (K : Int32 → TM → Prop) : Prop := f_X12_orderAt p1 M (fun o2 M1 => (∃ x3, IsOrder x3 ∧ o2 = some x3) ∧ (∀ x3, IsOrder x3 → o2 = some x3 → vp_in (M1 x3 6) 5 ∧ ((¬ (M1 x3 6) = (0 : Int32) → K (0 : Int32) M1) ∧ ((M1 x3 6) = (0 : Int32) → K (1 : Int32) M1))))
set_option maxRecDepth 100000 in
set_option maxHeartbeats 4000000 in
theorem c_X12_isOpen {ad : Nat → Nat} (p1 : Int32) (M : TM) (K : Int32 → TM → Prop) (h : f_X12_isOpen p1 M K) : MI yX12_isOpen cX12_isOpen 2 (some .boolean) 3 ad [.ref (ad 0), .int p1] M (fun r M' => (r = 0 ∨ r = 1) ∧ K r M') := by
  refine MI_of RX12 rfl (by decide +kernel) (Nat.le_of_ble_eq_true rfl) (fun p l e s m below meth c D tc E hr => ?_)
  unfold f_X12_isOpen at h
  refine ra_aload_n E dX12_isOpen_0 rfl 0 rfl ?_
  refine ra_iload_n E dX12_isOpen_1 rfl 1 rfl ?_
  refine ra_callAV (rest := []) E (c_X12_orderAt _ _ _ h) (lq_X12 _) cv_X12_orderAt ml_X12_190 (by decide) (lm (by decide)) (fun R => ⟨_, cel_0 tc ad R⟩) rfl rfl rfl (Nat.le_of_ble_eq_true rfl) ⟨Nat.le_of_ble_eq_true rfl, Nat.le_of_ble_eq_true rfl⟩ ⟨Nat.zero_le _, Nat.zero_le _⟩ dX12_isOpen_2 (fun o2 M1 h => ?_)
  obtain ⟨q5, q7⟩ := h
  obtain ⟨x3, g4, q5⟩ := q5
  replace h := q7 x3 g4 q5
  subst q5
  refine gf_X6_6 E g4 fl_X12_212 dX12_isOpen_5 ?_
  refine gs_O (i := 0) E 0 (by decide) rfl (by decide) fl_X12_216 dX12_isOpen_8 ?_
  obtain ⟨g9, h⟩ := h
  refine acmpO_ne (tgt := 18) E g9 (vpl _ _ (by decide)) dX12_isOpen_11 (by decide) (fun q8 => ?_) (fun q8 => ?_)
  · replace h := h.1 q8
    refine ra_iconst E dX12_isOpen_18 ki_0 ?_
    exact ra_zret E hr rfl dX12_isOpen_19 ⟨Or.inl rfl, h⟩
  · replace h := h.2 q8
    refine ra_iconst E dX12_isOpen_14 ki_1 ?_
    refine ra_goto (tgt := 19) E dX12_isOpen_15 (by decide) ?_
    exact ra_zret E hr rfl dX12_isOpen_19 ⟨Or.inr rfl, h⟩
