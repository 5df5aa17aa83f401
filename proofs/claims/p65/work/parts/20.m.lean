def f_X1_reset (a0 : Nat) (p1 : Int32) (p2 : Int32) (p3 : Int32) (p4 : Int32) (M : TM) (K : TM → Prop) : Prop := ∀ M1, M1 = u2 M a0 0 p1 → ∀ M2, M2 = u2 M1 a0 1 p1 → ∀ M3, M3 = u2 M2 a0 2 p2 → ∀ M4, M4 = u2 M3 a0 3 (0 : Int32) → ∀ M5, M5 = u2 M4 a0 4 p3 → ∀ M6, M6 = u2 M5 a0 5 p4 → ∀ M7, M7 = u2 M6 a0 6 (0 : Int32) → ∀ M8, M8 = u2 M7 a0 8 (0 : Int32) → K M8
set_option maxRecDepth 100000 in
set_option maxHeartbeats 4000000 in
theorem c_X1_reset {ad : Nat → Nat} (a0 : Nat) (h0 : IsBarge a0) (p1 : Int32) (p2 : Int32) (p3 : Int32) (p4 : Int32) (M : TM) (K : TM → Prop) (h : f_X1_reset a0 p1 p2 p3 p4 M K) : MV yX1_reset cX1_reset 5 0 ad [.ref (ad a0), .int p1, .int p2, .int p3, .int p4] M K := by
  refine MV_of RX1 rfl (by decide +kernel) (Nat.le_of_ble_eq_true rfl) (fun p l e s m below meth c D tc E hr => ?_)
  unfold f_X1_reset at h
  refine ra_aload_n E dX1_reset_0 rfl 0 rfl ?_
  refine ra_iload_n E dX1_reset_1 rfl 1 rfl ?_
  refine pf_X1_0 E h0 fl_X1_9 dX1_reset_2 ?_
  replace h := h _ rfl
  refine ra_aload_n E dX1_reset_5 rfl 0 rfl ?_
  refine ra_iload_n E dX1_reset_6 rfl 1 rfl ?_
  refine pf_X1_1 E h0 fl_X1_15 dX1_reset_7 ?_
  replace h := h _ rfl
  refine ra_aload_n E dX1_reset_10 rfl 0 rfl ?_
  refine ra_iload_n E dX1_reset_11 rfl 2 rfl ?_
  refine pf_X1_2 E h0 fl_X1_18 dX1_reset_12 ?_
  replace h := h _ rfl
  refine ra_aload_n E dX1_reset_15 rfl 0 rfl ?_
  refine ra_iconst E dX1_reset_16 ki_0 ?_
  refine pf_X1_3 E h0 fl_X1_21 dX1_reset_17 ?_
  replace h := h _ rfl
  refine ra_aload_n E dX1_reset_20 rfl 0 rfl ?_
  refine ra_iload_n E dX1_reset_21 rfl 3 rfl ?_
  refine pf_X1_4 E h0 fl_X1_24 dX1_reset_22 ?_
  replace h := h _ rfl
  refine ra_aload_n E dX1_reset_25 rfl 0 rfl ?_
  refine ra_iload E dX1_reset_26 4 rfl ?_
  refine pf_X1_5 E h0 fl_X1_27 dX1_reset_28 ?_
  replace h := h _ rfl
  refine ra_aload_n E dX1_reset_31 rfl 0 rfl ?_
  refine ra_iconst E dX1_reset_32 ki_0 ?_
  refine pf_X1_6 E h0 fl_X1_30 dX1_reset_33 ?_
  replace h := h _ rfl
  refine ra_aload_n E dX1_reset_36 rfl 0 rfl ?_
  refine ra_iconst E dX1_reset_37 ki_0 ?_
  refine pf_X1_8 E h0 fl_X1_37 dX1_reset_38 ?_
  replace h := h _ rfl
  exact ra_vret E hr dX1_reset_41 h
def f_X1_copyFrom (a0 : Nat) (a1 : Nat) (M : TM) (K : TM → Prop) : Prop := ∀ M1, M1 = u2 M a0 0 (M a1 0) → ∀ M2, M2 = u2 M1 a0 1 (M1 a1 1) → ∀ M3, M3 = u2 M2 a0 2 (M2 a1 2) → ∀ M4, M4 = u2 M3 a0 3 (M3 a1 3) → ∀ M5, M5 = u2 M4 a0 4 (M4 a1 4) → ∀ M6, M6 = u2 M5 a0 5 (M5 a1 5) → ∀ M7, M7 = u2 M6 a0 6 (M6 a1 6) → ∀ M8, M8 = u2 M7 a0 8 (M7 a1 8) → (¬ (0 : Int32) < 0 ∧ ¬ (0 : Int32) < 0 ∧ ¬ (4 : Int32) < 0 ∧ (0 : Int32).toNatClampNeg + (4 : Int32).toNatClampNeg ≤ 4 ∧ (0 : Int32).toNatClampNeg + (4 : Int32).toNatClampNeg ≤ 4) ∧ ∀ M10, M10 = uR M8 (a0 + 1) (va_cpy (M8 (a1 + 1)) (M8 (a0 + 1)) (0 : Int32).toNatClampNeg (0 : Int32).toNatClampNeg (4 : Int32).toNatClampNeg) → K M10
set_option maxRecDepth 100000 in
set_option maxHeartbeats 4000000 in
theorem c_X1_copyFrom {ad : Nat → Nat} (a0 : Nat) (h0 : IsBarge a0) (a1 : Nat) (h1 : IsBarge a1) (M : TM) (K : TM → Prop) (h : f_X1_copyFrom a0 a1 M K) : MV yX1_copyFrom cX1_copyFrom 2 1 ad [.ref (ad a0), .ref (ad a1)] M K := by
  refine MV_of RX1 rfl (by decide +kernel) (Nat.le_of_ble_eq_true rfl) (fun p l e s m below meth c D tc E hr => ?_)
  unfold f_X1_copyFrom at h
  refine ra_aload_n E dX1_copyFrom_0 rfl 0 rfl ?_
  refine ra_aload_n E dX1_copyFrom_1 rfl 1 rfl ?_
  refine gf_X1_0 E h1 fl_X1_9 dX1_copyFrom_2 ?_
  refine pf_X1_0 E h0 fl_X1_9 dX1_copyFrom_5 ?_
  replace h := h _ rfl
  refine ra_aload_n E dX1_copyFrom_8 rfl 0 rfl ?_
  refine ra_aload_n E dX1_copyFrom_9 rfl 1 rfl ?_
  refine gf_X1_1 E h1 fl_X1_15 dX1_copyFrom_10 ?_
  refine pf_X1_1 E h0 fl_X1_15 dX1_copyFrom_13 ?_
  replace h := h _ rfl
  refine ra_aload_n E dX1_copyFrom_16 rfl 0 rfl ?_
  refine ra_aload_n E dX1_copyFrom_17 rfl 1 rfl ?_
  refine gf_X1_2 E h1 fl_X1_18 dX1_copyFrom_18 ?_
  refine pf_X1_2 E h0 fl_X1_18 dX1_copyFrom_21 ?_
  replace h := h _ rfl
  refine ra_aload_n E dX1_copyFrom_24 rfl 0 rfl ?_
  refine ra_aload_n E dX1_copyFrom_25 rfl 1 rfl ?_
  refine gf_X1_3 E h1 fl_X1_21 dX1_copyFrom_26 ?_
  refine pf_X1_3 E h0 fl_X1_21 dX1_copyFrom_29 ?_
  replace h := h _ rfl
  refine ra_aload_n E dX1_copyFrom_32 rfl 0 rfl ?_
  refine ra_aload_n E dX1_copyFrom_33 rfl 1 rfl ?_
  refine gf_X1_4 E h1 fl_X1_24 dX1_copyFrom_34 ?_
  refine pf_X1_4 E h0 fl_X1_24 dX1_copyFrom_37 ?_
  replace h := h _ rfl
  refine ra_aload_n E dX1_copyFrom_40 rfl 0 rfl ?_
  refine ra_aload_n E dX1_copyFrom_41 rfl 1 rfl ?_
  refine gf_X1_5 E h1 fl_X1_27 dX1_copyFrom_42 ?_
  refine pf_X1_5 E h0 fl_X1_27 dX1_copyFrom_45 ?_
  replace h := h _ rfl
  refine ra_aload_n E dX1_copyFrom_48 rfl 0 rfl ?_
  refine ra_aload_n E dX1_copyFrom_49 rfl 1 rfl ?_
  refine gf_X1_6 E h1 fl_X1_30 dX1_copyFrom_50 ?_
  refine pf_X1_6 E h0 fl_X1_30 dX1_copyFrom_53 ?_
  replace h := h _ rfl
  refine ra_aload_n E dX1_copyFrom_56 rfl 0 rfl ?_
  refine ra_aload_n E dX1_copyFrom_57 rfl 1 rfl ?_
  refine gf_X1_8 E h1 fl_X1_37 dX1_copyFrom_58 ?_
  refine pf_X1_8 E h0 fl_X1_37 dX1_copyFrom_61 ?_
  replace h := h _ rfl
  refine ra_aload_n E dX1_copyFrom_64 rfl 1 rfl ?_
  refine gf_X1_7 E h1 fl_X1_33 dX1_copyFrom_65 ?_
  refine ra_iconst E dX1_copyFrom_68 ki_0 ?_
  refine ra_aload_n E dX1_copyFrom_69 rfl 0 rfl ?_
  refine gf_X1_7 E h0 fl_X1_33 dX1_copyFrom_70 ?_
  refine ra_iconst E dX1_copyFrom_73 ki_0 ?_
  refine ra_aload_n E dX1_copyFrom_74 rfl 0 rfl ?_
  refine gf_X1_7 E h0 fl_X1_33 dX1_copyFrom_75 ?_
  refine ra_alen (n := 4) (v := 4) E (lm h0.lt) (fun R => ⟨_, (cel_queue tc ad h0) R, rfl⟩) rfl (by decide) dX1_copyFrom_78 ?_
  obtain ⟨g9, h⟩ := h
  refine ra_copyi E (lm h1.lt) (cel_queue tc ad h1) (lm h0.lt) (cel_queue tc ad h0) g9 ml_X1_40 ⟨Nat.le_of_ble_eq_true rfl, Nat.le_of_ble_eq_true rfl⟩ dX1_copyFrom_79 ?_
  replace h := h _ rfl
  exact ra_vret E hr dX1_copyFrom_82 h
def f_X1_isInLock (a0 : Nat) (M : TM) (K : Int32 → TM → Prop) : Prop := (((M a0 3) ≤ 0 → K (0 : Int32) M) ∧ (¬ (M a0 3) ≤ 0 → K (1 : Int32) M))
set_option maxRecDepth 100000 in
set_option maxHeartbeats 4000000 in
theorem c_X1_isInLock {ad : Nat → Nat} (a0 : Nat) (h0 : IsBarge a0) (M : TM) (K : Int32 → TM → Prop) (h : f_X1_isInLock a0 M K) : MI yX1_isInLock cX1_isInLock 1 (some .boolean) 0 ad [.ref (ad a0)] M (fun r M' => (r = 0 ∨ r = 1) ∧ K r M') := by
  refine MI_of RX1 rfl (by decide +kernel) (Nat.le_of_ble_eq_true rfl) (fun p l e s m below meth c D tc E hr => ?_)
  unfold f_X1_isInLock at h
  refine ra_aload_n E dX1_isInLock_0 rfl 0 rfl ?_
  refine gf_X1_3 E h0 fl_X1_21 dX1_isInLock_1 ?_
  refine ra_if_le (tgt := 11) E dX1_isInLock_4 (by decide) (fun q1 => ?_) (fun q1 => ?_)
  · replace h := h.1 q1
    refine ra_iconst E dX1_isInLock_11 ki_0 ?_
    exact ra_zret E hr rfl dX1_isInLock_12 ⟨Or.inl rfl, h⟩
  · replace h := h.2 q1
    refine ra_iconst E dX1_isInLock_7 ki_1 ?_
    refine ra_goto (tgt := 12) E dX1_isInLock_8 (by decide) ?_
    exact ra_zret E hr rfl dX1_isInLock_12 ⟨Or.inr rfl, h⟩
def f_X1_isUnderWay (a0 : Nat) (M : TM) (K : Int32 → TM → Prop) : Prop := (((M a0 1) = (M a0 0) → K (0 : Int32) M) ∧ (¬ (M a0 1) = (M a0 0) → K (1 : Int32) M))
set_option maxRecDepth 100000 in
set_option maxHeartbeats 4000000 in
theorem c_X1_isUnderWay {ad : Nat → Nat} (a0 : Nat) (h0 : IsBarge a0) (M : TM) (K : Int32 → TM → Prop) (h : f_X1_isUnderWay a0 M K) : MI yX1_isUnderWay cX1_isUnderWay 1 (some .boolean) 0 ad [.ref (ad a0)] M (fun r M' => (r = 0 ∨ r = 1) ∧ K r M') := by
  refine MI_of RX1 rfl (by decide +kernel) (Nat.le_of_ble_eq_true rfl) (fun p l e s m below meth c D tc E hr => ?_)
  unfold f_X1_isUnderWay at h
  refine ra_aload_n E dX1_isUnderWay_0 rfl 0 rfl ?_
  refine gf_X1_1 E h0 fl_X1_15 dX1_isUnderWay_1 ?_
  refine ra_aload_n E dX1_isUnderWay_4 rfl 0 rfl ?_
  refine gf_X1_0 E h0 fl_X1_9 dX1_isUnderWay_5 ?_
  refine ra_icmp_eq (tgt := 15) E dX1_isUnderWay_8 (by decide) (fun q1 => ?_) (fun q1 => ?_)
  · replace h := h.1 q1
    refine ra_iconst E dX1_isUnderWay_15 ki_0 ?_
    exact ra_zret E hr rfl dX1_isUnderWay_16 ⟨Or.inl rfl, h⟩
  · replace h := h.2 q1
    refine ra_iconst E dX1_isUnderWay_11 ki_1 ?_
    refine ra_goto (tgt := 16) E dX1_isUnderWay_12 (by decide) ?_
    exact ra_zret E hr rfl dX1_isUnderWay_16 ⟨Or.inr rfl, h⟩
def f_X1_queuedAt (a0 : Nat) (p1 : Int32) (M : TM) (K : Int32 → TM → Prop) : Prop := ((p1 < 0 → K (-1 : Int32) M) ∧ (¬ p1 < 0 → (((M a0 8) ≤ p1 → K (-1 : Int32) M) ∧ (¬ (M a0 8) ≤ p1 → ((p1 < (4 : Int32) → vp_in p1 4 ∧ K (M (a0 + 1) p1.toNatClampNeg) M) ∧ (¬ p1 < (4 : Int32) → K (-1 : Int32) M))))))
set_option maxRecDepth 100000 in
set_option maxHeartbeats 4000000 in
theorem c_X1_queuedAt {ad : Nat → Nat} (a0 : Nat) (h0 : IsBarge a0) (p1 : Int32) (M : TM) (K : Int32 → TM → Prop) (h : f_X1_queuedAt a0 p1 M K) : MI yX1_queuedAt cX1_queuedAt 2 (some .int) 0 ad [.ref (ad a0), .int p1] M K := by
  refine MI_of RX1 rfl (by decide +kernel) (Nat.le_of_ble_eq_true rfl) (fun p l e s m below meth c D tc E hr => ?_)
  unfold f_X1_queuedAt at h
  refine ra_iload_n E dX1_queuedAt_0 rfl 1 rfl ?_
  refine ra_if_lt (tgt := 21) E dX1_queuedAt_1 (by decide) (fun q1 => ?_) (fun q1 => ?_)
  · replace h := h.1 q1
    refine ra_iconst E dX1_queuedAt_21 ki_m1 ?_
    exact ra_iret E hr dX1_queuedAt_22 h
  · replace h := h.2 q1
    refine ra_iload_n E dX1_queuedAt_4 rfl 1 rfl ?_
    refine ra_aload_n E dX1_queuedAt_5 rfl 0 rfl ?_
    refine gf_X1_8 E h0 fl_X1_37 dX1_queuedAt_6 ?_
    refine ra_icmp_ge (tgt := 21) E dX1_queuedAt_9 (by decide) (fun q2 => ?_) (fun q2 => ?_)
    · replace h := h.1 q2
      refine ra_iconst E dX1_queuedAt_21 ki_m1 ?_
      exact ra_iret E hr dX1_queuedAt_22 h
    · replace h := h.2 q2
      refine ra_iload_n E dX1_queuedAt_12 rfl 1 rfl ?_
      refine ra_aload_n E dX1_queuedAt_13 rfl 0 rfl ?_
      refine gf_X1_7 E h0 fl_X1_33 dX1_queuedAt_14 ?_
      refine ra_alen (n := 4) (v := 4) E (lm h0.lt) (fun R => ⟨_, (cel_queue tc ad h0) R, rfl⟩) rfl (by decide) dX1_queuedAt_17 ?_
      refine ra_icmp_lt (tgt := 23) E dX1_queuedAt_18 (by decide) (fun q3 => ?_) (fun q3 => ?_)
      · replace h := h.1 q3
        refine ra_aload_n E dX1_queuedAt_23 rfl 0 rfl ?_
        refine gf_X1_7 E h0 fl_X1_33 dX1_queuedAt_24 ?_
        refine ra_iload_n E dX1_queuedAt_27 rfl 1 rfl ?_
        obtain ⟨g4, h⟩ := h
        refine ra_iald E (lm h0.lt) (cel_queue tc ad h0) g4 dX1_queuedAt_28 ?_
        exact ra_iret E hr dX1_queuedAt_29 h
      · replace h := h.2 q3
        refine ra_iconst E dX1_queuedAt_21 ki_m1 ?_
        exact ra_iret E hr dX1_queuedAt_22 h
def f_X1_enqueue (a0 : Nat) (p1 : Int32) (M : TM) (K : TM → Prop) : Prop := (((4 : Int32) ≤ (M a0 8) → K M) ∧ (¬ (4 : Int32) ≤ (M a0 8) → vp_in (M a0 8) 4 ∧ ∀ M3, M3 = u2 M (a0 + 1) (M a0 8).toNatClampNeg p1 → ∀ M4, M4 = u2 M3 a0 8 ((M3 a0 8) + (1 : Int32)) → K M4))
set_option maxRecDepth 100000 in
set_option maxHeartbeats 4000000 in
theorem c_X1_enqueue {ad : Nat → Nat} (a0 : Nat) (h0 : IsBarge a0) (p1 : Int32) (M : TM) (K : TM → Prop) (h : f_X1_enqueue a0 p1 M K) : MV yX1_enqueue cX1_enqueue 2 0 ad [.ref (ad a0), .int p1] M K := by
  refine MV_of RX1 rfl (by decide +kernel) (Nat.le_of_ble_eq_true rfl) (fun p l e s m below meth c D tc E hr => ?_)
  unfold f_X1_enqueue at h
  refine ra_aload_n E dX1_enqueue_0 rfl 0 rfl ?_
  refine gf_X1_8 E h0 fl_X1_37 dX1_enqueue_1 ?_
  refine ra_aload_n E dX1_enqueue_4 rfl 0 rfl ?_
  refine gf_X1_7 E h0 fl_X1_33 dX1_enqueue_5 ?_
  refine ra_alen (n := 4) (v := 4) E (lm h0.lt) (fun R => ⟨_, (cel_queue tc ad h0) R, rfl⟩) rfl (by decide) dX1_enqueue_8 ?_
  refine ra_icmp_ge (tgt := 32) E dX1_enqueue_9 (by decide) (fun q1 => ?_) (fun q1 => ?_)
  · replace h := h.1 q1
    exact ra_vret E hr dX1_enqueue_32 h
  · replace h := h.2 q1
    refine ra_aload_n E dX1_enqueue_12 rfl 0 rfl ?_
    refine gf_X1_7 E h0 fl_X1_33 dX1_enqueue_13 ?_
    refine ra_aload_n E dX1_enqueue_16 rfl 0 rfl ?_
    refine gf_X1_8 E h0 fl_X1_37 dX1_enqueue_17 ?_
    refine ra_iload_n E dX1_enqueue_20 rfl 1 rfl ?_
    obtain ⟨g2, h⟩ := h
    refine ra_iast E (lm h0.lt) (cel_queue tc ad h0) g2 dX1_enqueue_21 ?_
    replace h := h _ rfl
    refine ra_aload_n E dX1_enqueue_22 rfl 0 rfl ?_
    refine ra_dup E dX1_enqueue_23 rfl ?_
    refine gf_X1_8 E h0 fl_X1_37 dX1_enqueue_24 ?_
    refine ra_iconst E dX1_enqueue_27 ki_1 ?_
    refine ra_iadd E dX1_enqueue_28 ?_
    refine pf_X1_8 E h0 fl_X1_37 dX1_enqueue_29 ?_
    replace h := h _ rfl
    exact ra_vret E hr dX1_enqueue_32 h
def f_X1_unqueue_L4 (a0 : Nat) (p1 : Int32) (K : TM → Prop) : Nat → Int32 → Int32 → Int32 → TM → Prop
  | 0, _, _, _, _ => False
  | n + 1, x1, x2, x3, M => (((M a0 8) ≤ x3 → ∀ M2, M2 = u2 M a0 8 x2 → K M2) ∧ (¬ (M a0 8) ≤ x3 → (((4 : Int32) ≤ x3 → ∀ M4, M4 = u2 M a0 8 x2 → K M4) ∧ (¬ (4 : Int32) ≤ x3 → vp_in x3 4 ∧ (((M (a0 + 1) x3.toNatClampNeg) = x1 → f_X1_unqueue_L4 a0 p1 K n x1 x2 (x3 + 1) M) ∧ (¬ (M (a0 + 1) x3.toNatClampNeg) = x1 → vp_in x3 4 ∧ vp_in x2 4 ∧ ∀ M9, M9 = u2 M (a0 + 1) x2.toNatClampNeg (M (a0 + 1) x3.toNatClampNeg) → f_X1_unqueue_L4 a0 p1 K n x1 (x2 + 1) (x3 + 1) M9))))))
set_option maxRecDepth 100000 in
set_option maxHeartbeats 4000000 in
theorem l_X1_unqueue_L4 {p : Program} {l : Launch} {e : Env} {s : State} {m : MethodId} {args : Array Value} {below : List Frame} {meth : Method} {c : Code} {D : va_G} {tc : Nat → ClassId} {ad : Nat → Nat} (a0 : Nat) (h0 : IsBarge a0) (p1 : Int32) {K : TM → Prop} (E : Ev p s m args meth c D tc ad RX1 cX1_unqueue 4) (hr : meth.sig.returnType = none) : ∀ (n : Nat) (x1 : Int32) (x2 : Int32) (x3 : Int32) (M : TM) , f_X1_unqueue_L4 a0 p1 K n x1 x2 x3 M → Wa p l e (rmD 0) s m args below meth c 0 0 (MQ below (va_Qv K (EndW D tc ad) (A0 ad s.heap.size)) args s 0 0 (A0 ad s.heap.size)) D tc ad 4 M 4 [(0, .ref (ad a0)), (1, .int x1), (2, .int x2), (3, .int x3)] [] := by
  intro n
  induction n with
  | zero => intro x1 x2 x3 M  h; exact h.elim
  | succ n ih =>
    intro x1 x2 x3 M  h
    unfold f_X1_unqueue_L4 at h
    refine ra_iload_n E dX1_unqueue_4 rfl 3 rfl ?_
    refine ra_aload_n E dX1_unqueue_5 rfl 0 rfl ?_
    refine gf_X1_8 E h0 fl_X1_37 dX1_unqueue_6 ?_
    refine ra_icmp_ge (tgt := 52) E dX1_unqueue_9 (by decide) (fun q1 => ?_) (fun q1 => ?_)
    · replace h := h.1 q1
      refine ra_aload_n E dX1_unqueue_52 rfl 0 rfl ?_
      refine ra_iload_n E dX1_unqueue_53 rfl 2 rfl ?_
      refine pf_X1_8 E h0 fl_X1_37 dX1_unqueue_54 ?_
      replace h := h _ rfl
      exact ra_vret E hr dX1_unqueue_57 h
    · replace h := h.2 q1
      refine ra_iload_n E dX1_unqueue_12 rfl 3 rfl ?_
      refine ra_aload_n E dX1_unqueue_13 rfl 0 rfl ?_
      refine gf_X1_7 E h0 fl_X1_33 dX1_unqueue_14 ?_
      refine ra_alen (n := 4) (v := 4) E (lm h0.lt) (fun R => ⟨_, (cel_queue tc ad h0) R, rfl⟩) rfl (by decide) dX1_unqueue_17 ?_
      refine ra_icmp_ge (tgt := 52) E dX1_unqueue_18 (by decide) (fun q3 => ?_) (fun q3 => ?_)
      · replace h := h.1 q3
        refine ra_aload_n E dX1_unqueue_52 rfl 0 rfl ?_
        refine ra_iload_n E dX1_unqueue_53 rfl 2 rfl ?_
        refine pf_X1_8 E h0 fl_X1_37 dX1_unqueue_54 ?_
        replace h := h _ rfl
        exact ra_vret E hr dX1_unqueue_57 h
      · replace h := h.2 q3
        refine ra_aload_n E dX1_unqueue_21 rfl 0 rfl ?_
        refine gf_X1_7 E h0 fl_X1_33 dX1_unqueue_22 ?_
        refine ra_iload_n E dX1_unqueue_25 rfl 3 rfl ?_
        obtain ⟨g5, h⟩ := h
        refine ra_iald E (lm h0.lt) (cel_queue tc ad h0) g5 dX1_unqueue_26 ?_
        refine ra_iload_n E dX1_unqueue_27 rfl 1 rfl ?_
        refine ra_icmp_eq (tgt := 46) E dX1_unqueue_28 (by decide) (fun q6 => ?_) (fun q6 => ?_)
        · replace h := h.1 q6
          refine ra_iinc1 (L' := [(3, _), (0, _), (1, _), (2, _)]) E dX1_unqueue_46 3 rfl (by decide) rfl ?_
          refine ra_goto (tgt := 4) E dX1_unqueue_49 (by decide) ?_
          exact ra_sub (L' := [(0, _), (1, _), (2, _), (3, _)]) [1, 2, 3, 0] rfl (ih _ _ _ _ h)
        · replace h := h.2 q6
          refine ra_aload_n E dX1_unqueue_31 rfl 0 rfl ?_
          refine gf_X1_7 E h0 fl_X1_33 dX1_unqueue_32 ?_
          refine ra_iload_n E dX1_unqueue_35 rfl 2 rfl ?_
          refine ra_aload_n E dX1_unqueue_36 rfl 0 rfl ?_
          refine gf_X1_7 E h0 fl_X1_33 dX1_unqueue_37 ?_
          refine ra_iload_n E dX1_unqueue_40 rfl 3 rfl ?_
          obtain ⟨g7, h⟩ := h
          refine ra_iald E (lm h0.lt) (cel_queue tc ad h0) g7 dX1_unqueue_41 ?_
          obtain ⟨g8, h⟩ := h
          refine ra_iast E (lm h0.lt) (cel_queue tc ad h0) g8 dX1_unqueue_42 ?_
          replace h := h _ rfl
          refine ra_iinc1 (L' := [(2, _), (0, _), (1, _), (3, _)]) E dX1_unqueue_43 2 rfl (by decide) rfl ?_
          refine ra_iinc1 (L' := [(3, _), (2, _), (0, _), (1, _)]) E dX1_unqueue_46 3 rfl (by decide) rfl ?_
          refine ra_goto (tgt := 4) E dX1_unqueue_49 (by decide) ?_
          exact ra_sub (L' := [(0, _), (1, _), (2, _), (3, _)]) [2, 3, 1, 0] rfl (ih _ _ _ _ h)
def f_X1_unqueue (a0 : Nat) (p1 : Int32) (M : TM) (K : TM → Prop) : Prop := ∃ n4, f_X1_unqueue_L4 a0 p1 K n4 p1 (0 : Int32) (0 : Int32) M
set_option maxRecDepth 100000 in
set_option maxHeartbeats 4000000 in
theorem c_X1_unqueue {ad : Nat → Nat} (a0 : Nat) (h0 : IsBarge a0) (p1 : Int32) (M : TM) (K : TM → Prop) (h : f_X1_unqueue a0 p1 M K) : MV yX1_unqueue cX1_unqueue 4 0 ad [.ref (ad a0), .int p1] M K := by
  refine MV_of RX1 rfl (by decide +kernel) (Nat.le_of_ble_eq_true rfl) (fun p l e s m below meth c D tc E hr => ?_)
  unfold f_X1_unqueue at h
  refine ra_iconst E dX1_unqueue_0 ki_0 ?_
  refine ra_istore_n (L' := [(2, _), (0, _), (1, _)]) E dX1_unqueue_1 rfl (by decide) rfl ?_
  refine ra_iconst E dX1_unqueue_2 ki_0 ?_
  refine ra_istore_n (L' := [(3, _), (2, _), (0, _), (1, _)]) E dX1_unqueue_3 rfl (by decide) rfl ?_
  obtain ⟨n10, h⟩ := h
  exact ra_sub (L' := [(0, _), (1, _), (2, _), (3, _)]) [2, 3, 1, 0] rfl (l_X1_unqueue_L4 a0 h0 p1 E hr n10 _ _ _ _ h)
def f_X2_hasPlace (a0 : Nat) (p1 : Int32) (M : TM) (K : Int32 → TM → Prop) : Prop := ((p1 < 0 → K (0 : Int32) M) ∧ (¬ p1 < 0 → (((M a0 0) ≤ p1 → K (0 : Int32) M) ∧ (¬ (M a0 0) ≤ p1 → K (1 : Int32) M))))
set_option maxRecDepth 100000 in
set_option maxHeartbeats 4000000 in
theorem c_X2_hasPlace {ad : Nat → Nat} (a0 : Nat) (h0 : IsCanal a0) (p1 : Int32) (M : TM) (K : Int32 → TM → Prop) (h : f_X2_hasPlace a0 p1 M K) : MI yX2_hasPlace cX2_hasPlace 2 (some .boolean) 0 ad [.ref (ad a0), .int p1] M (fun r M' => (r = 0 ∨ r = 1) ∧ K r M') := by
  refine MI_of RX2 rfl (by decide +kernel) (Nat.le_of_ble_eq_true rfl) (fun p l e s m below meth c D tc E hr => ?_)
  unfold f_X2_hasPlace at h
  refine ra_iload_n E dX2_hasPlace_0 rfl 1 rfl ?_
  refine ra_if_lt (tgt := 16) E dX2_hasPlace_1 (by decide) (fun q1 => ?_) (fun q1 => ?_)
  · replace h := h.1 q1
    refine ra_iconst E dX2_hasPlace_16 ki_0 ?_
    exact ra_zret E hr rfl dX2_hasPlace_17 ⟨Or.inl rfl, h⟩
  · replace h := h.2 q1
    refine ra_iload_n E dX2_hasPlace_4 rfl 1 rfl ?_
    refine ra_aload_n E dX2_hasPlace_5 rfl 0 rfl ?_
    refine gf_X2_0 E h0 fl_X2_9 dX2_hasPlace_6 ?_
    refine ra_icmp_ge (tgt := 16) E dX2_hasPlace_9 (by decide) (fun q2 => ?_) (fun q2 => ?_)
    · replace h := h.1 q2
      refine ra_iconst E dX2_hasPlace_16 ki_0 ?_
      exact ra_zret E hr rfl dX2_hasPlace_17 ⟨Or.inl rfl, h⟩
    · replace h := h.2 q2
      refine ra_iconst E dX2_hasPlace_12 ki_1 ?_
      refine ra_goto (tgt := 17) E dX2_hasPlace_13 (by decide) ?_
      exact ra_zret E hr rfl dX2_hasPlace_17 ⟨Or.inr rfl, h⟩
def f_X2_hasSection (a0 : Nat) (p1 : Int32) (M : TM) (K : Int32 → TM → Prop) : Prop := ((p1 < 0 → K (0 : Int32) M) ∧ (¬ p1 < 0 → ((((M a0 0) - (1 : Int32)) ≤ p1 → K (0 : Int32) M) ∧ (¬ ((M a0 0) - (1 : Int32)) ≤ p1 → K (1 : Int32) M))))
set_option maxRecDepth 100000 in
set_option maxHeartbeats 4000000 in
theorem c_X2_hasSection {ad : Nat → Nat} (a0 : Nat) (h0 : IsCanal a0) (p1 : Int32) (M : TM) (K : Int32 → TM → Prop) (h : f_X2_hasSection a0 p1 M K) : MI yX2_hasSection cX2_hasSection 2 (some .boolean) 0 ad [.ref (ad a0), .int p1] M (fun r M' => (r = 0 ∨ r = 1) ∧ K r M') := by
  refine MI_of RX2 rfl (by decide +kernel) (Nat.le_of_ble_eq_true rfl) (fun p l e s m below meth c D tc E hr => ?_)
  unfold f_X2_hasSection at h
  refine ra_iload_n E dX2_hasSection_0 rfl 1 rfl ?_
  refine ra_if_lt (tgt := 18) E dX2_hasSection_1 (by decide) (fun q1 => ?_) (fun q1 => ?_)
  · replace h := h.1 q1
    refine ra_iconst E dX2_hasSection_18 ki_0 ?_
    exact ra_zret E hr rfl dX2_hasSection_19 ⟨Or.inl rfl, h⟩
  · replace h := h.2 q1
    refine ra_iload_n E dX2_hasSection_4 rfl 1 rfl ?_
    refine ra_aload_n E dX2_hasSection_5 rfl 0 rfl ?_
    refine gf_X2_0 E h0 fl_X2_9 dX2_hasSection_6 ?_
    refine ra_iconst E dX2_hasSection_9 ki_1 ?_
    refine ra_isub E dX2_hasSection_10 ?_
    refine ra_icmp_ge (tgt := 18) E dX2_hasSection_11 (by decide) (fun q2 => ?_) (fun q2 => ?_)
    · replace h := h.1 q2
      refine ra_iconst E dX2_hasSection_18 ki_0 ?_
      exact ra_zret E hr rfl dX2_hasSection_19 ⟨Or.inl rfl, h⟩
    · replace h := h.2 q2
      refine ra_iconst E dX2_hasSection_14 ki_1 ?_
      refine ra_goto (tgt := 19) E dX2_hasSection_15 (by decide) ?_
      exact ra_zret E hr rfl dX2_hasSection_19 ⟨Or.inr rfl, h⟩
def f_X2_hasBarge (a0 : Nat) (p1 : Int32) (M : TM) (K : Int32 → TM → Prop) : Prop := ((p1 < 0 → K (0 : Int32) M) ∧ (¬ p1 < 0 → (((M a0 4) ≤ p1 → K (0 : Int32) M) ∧ (¬ (M a0 4) ≤ p1 → K (1 : Int32) M))))
set_option maxRecDepth 100000 in
set_option maxHeartbeats 4000000 in
theorem c_X2_hasBarge {ad : Nat → Nat} (a0 : Nat) (h0 : IsCanal a0) (p1 : Int32) (M : TM) (K : Int32 → TM → Prop) (h : f_X2_hasBarge a0 p1 M K) : MI yX2_hasBarge cX2_hasBarge 2 (some .boolean) 0 ad [.ref (ad a0), .int p1] M (fun r M' => (r = 0 ∨ r = 1) ∧ K r M') := by
  refine MI_of RX2 rfl (by decide +kernel) (Nat.le_of_ble_eq_true rfl) (fun p l e s m below meth c D tc E hr => ?_)
  unfold f_X2_hasBarge at h
  refine ra_iload_n E dX2_hasBarge_0 rfl 1 rfl ?_
  refine ra_if_lt (tgt := 16) E dX2_hasBarge_1 (by decide) (fun q1 => ?_) (fun q1 => ?_)
  · replace h := h.1 q1
    refine ra_iconst E dX2_hasBarge_16 ki_0 ?_
    exact ra_zret E hr rfl dX2_hasBarge_17 ⟨Or.inl rfl, h⟩
  · replace h := h.2 q1
    refine ra_iload_n E dX2_hasBarge_4 rfl 1 rfl ?_
    refine ra_aload_n E dX2_hasBarge_5 rfl 0 rfl ?_
    refine gf_X2_4 E h0 fl_X2_28 dX2_hasBarge_6 ?_
    refine ra_icmp_ge (tgt := 16) E dX2_hasBarge_9 (by decide) (fun q2 => ?_) (fun q2 => ?_)
    · replace h := h.1 q2
      refine ra_iconst E dX2_hasBarge_16 ki_0 ?_
      exact ra_zret E hr rfl dX2_hasBarge_17 ⟨Or.inl rfl, h⟩
    · replace h := h.2 q2
      refine ra_iconst E dX2_hasBarge_12 ki_1 ?_
      refine ra_goto (tgt := 17) E dX2_hasBarge_13 (by decide) ?_
      exact ra_zret E hr rfl dX2_hasBarge_17 ⟨Or.inr rfl, h⟩
def f_X2_hasOrder (a0 : Nat) (p1 : Int32) (M : TM) (K : Int32 → TM → Prop) : Prop := ((p1 < 0 → K (0 : Int32) M) ∧ (¬ p1 < 0 → (((M a0 6) ≤ p1 → K (0 : Int32) M) ∧ (¬ (M a0 6) ≤ p1 → K (1 : Int32) M))))
set_option maxRecDepth 100000 in
set_option maxHeartbeats 4000000 in
theorem c_X2_hasOrder {ad : Nat → Nat} (a0 : Nat) (h0 : IsCanal a0) (p1 : Int32) (M : TM) (K : Int32 → TM → Prop) (h : f_X2_hasOrder a0 p1 M K) : MI yX2_hasOrder cX2_hasOrder 2 (some .boolean) 0 ad [.ref (ad a0), .int p1] M (fun r M' => (r = 0 ∨ r = 1) ∧ K r M') := by
  refine MI_of RX2 rfl (by decide +kernel) (Nat.le_of_ble_eq_true rfl) (fun p l e s m below meth c D tc E hr => ?_)
  unfold f_X2_hasOrder at h
  refine ra_iload_n E dX2_hasOrder_0 rfl 1 rfl ?_
  refine ra_if_lt (tgt := 16) E dX2_hasOrder_1 (by decide) (fun q1 => ?_) (fun q1 => ?_)
  · replace h := h.1 q1
    refine ra_iconst E dX2_hasOrder_16 ki_0 ?_
    exact ra_zret E hr rfl dX2_hasOrder_17 ⟨Or.inl rfl, h⟩
  · replace h := h.2 q1
    refine ra_iload_n E dX2_hasOrder_4 rfl 1 rfl ?_
    refine ra_aload_n E dX2_hasOrder_5 rfl 0 rfl ?_
    refine gf_X2_6 E h0 fl_X2_37 dX2_hasOrder_6 ?_
    refine ra_icmp_ge (tgt := 16) E dX2_hasOrder_9 (by decide) (fun q2 => ?_) (fun q2 => ?_)
    · replace h := h.1 q2
      refine ra_iconst E dX2_hasOrder_16 ki_0 ?_
      exact ra_zret E hr rfl dX2_hasOrder_17 ⟨Or.inl rfl, h⟩
    · replace h := h.2 q2
      refine ra_iconst E dX2_hasOrder_12 ki_1 ?_
      refine ra_goto (tgt := 17) E dX2_hasOrder_13 (by decide) ?_
      exact ra_zret E hr rfl dX2_hasOrder_17 ⟨Or.inr rfl, h⟩
def f_X2_addBarge (a0 : Nat) (p1 : Int32) (p2 : Int32) (p3 : Int32) (p4 : Int32) (M : TM) (K : TM → Prop) : Prop := (((5 : Int32) ≤ (M a0 4) → K M) ∧ (¬ (5 : Int32) ≤ (M a0 4) → vp_in (M a0 4) 5 ∧ f_X1_reset (a0 + 21 + 2 * (M a0 4).toNatClampNeg) p1 p2 p3 p4 M (fun M3 => ∀ M4, M4 = u2 M3 a0 4 ((M3 a0 4) + (1 : Int32)) → ∀ M5, M5 = u2 M4 a0 10 ((M4 a0 10) + p4) → K M5)))
set_option maxRecDepth 100000 in
set_option maxHeartbeats 4000000 in
theorem c_X2_addBarge {ad : Nat → Nat} (a0 : Nat) (h0 : IsCanal a0) (p1 : Int32) (p2 : Int32) (p3 : Int32) (p4 : Int32) (M : TM) (K : TM → Prop) (h : f_X2_addBarge a0 p1 p2 p3 p4 M K) : MV yX2_addBarge cX2_addBarge 5 1 ad [.ref (ad a0), .int p1, .int p2, .int p3, .int p4] M K := by
  refine MV_of RX2 rfl (by decide +kernel) (Nat.le_of_ble_eq_true rfl) (fun p l e s m below meth c D tc E hr => ?_)
  unfold f_X2_addBarge at h
  refine ra_aload_n E dX2_addBarge_0 rfl 0 rfl ?_
  refine gf_X2_4 E h0 fl_X2_28 dX2_addBarge_1 ?_
  refine ra_aload_n E dX2_addBarge_4 rfl 0 rfl ?_
  refine gf_X2_5 E h0 fl_X2_33 dX2_addBarge_5 ?_
  refine ra_alen (n := 5) (v := 5) E (lm (h0.add (by decide))) (fun R => ⟨_, (cel_bars tc ad h0) R, rfl⟩) rfl (by decide) dX2_addBarge_8 ?_
  refine ra_icmp_ge (tgt := 50) E dX2_addBarge_9 (by decide) (fun q1 => ?_) (fun q1 => ?_)
  · replace h := h.1 q1
    exact ra_vret E hr dX2_addBarge_50 h
  · replace h := h.2 q1
    refine ra_aload_n E dX2_addBarge_12 rfl 0 rfl ?_
    refine gf_X2_5 E h0 fl_X2_33 dX2_addBarge_13 ?_
    refine ra_aload_n E dX2_addBarge_16 rfl 0 rfl ?_
    refine gf_X2_4 E h0 fl_X2_28 dX2_addBarge_17 ?_
    obtain ⟨g2, h⟩ := h
    refine ra_aald E (lm (h0.add (by decide))) (cel_bars tc ad h0) rfl g2 dX2_addBarge_20 ?_
    refine ra_iload_n E dX2_addBarge_21 rfl 1 rfl ?_
    refine ra_iload_n E dX2_addBarge_22 rfl 2 rfl ?_
    refine ra_iload_n E dX2_addBarge_23 rfl 3 rfl ?_
    refine ra_iload E dX2_addBarge_24 4 rfl ?_
    refine ra_callVV (rest := []) E (c_X1_reset _ (isBarge_of h0 g2) _ _ _ _ _ _ h) (lq_X1 _) cv_X1_reset ml_X2_86 (by decide) (lm (Nat.lt_of_succ_lt (isBarge_of h0 g2).lt)) (fun R => ⟨_, cel_barge tc ad (isBarge_of h0 g2) R⟩) rfl rfl rfl (Nat.le_of_ble_eq_true rfl) ⟨Nat.le_of_ble_eq_true rfl, Nat.le_of_ble_eq_true rfl⟩ ⟨Nat.zero_le _, Nat.zero_le _⟩ dX2_addBarge_26 (fun M3 h => ?_)
    refine ra_aload_n E dX2_addBarge_29 rfl 0 rfl ?_
    refine ra_dup E dX2_addBarge_30 rfl ?_
    refine gf_X2_4 E h0 fl_X2_28 dX2_addBarge_31 ?_
    refine ra_iconst E dX2_addBarge_34 ki_1 ?_
    refine ra_iadd E dX2_addBarge_35 ?_
    refine pf_X2_4 E h0 fl_X2_28 dX2_addBarge_36 ?_
    replace h := h _ rfl
    refine ra_aload_n E dX2_addBarge_39 rfl 0 rfl ?_
    refine ra_dup E dX2_addBarge_40 rfl ?_
    refine gf_X2_10 E h0 fl_X2_52 dX2_addBarge_41 ?_
    refine ra_iload E dX2_addBarge_44 4 rfl ?_
    refine ra_iadd E dX2_addBarge_46 ?_
    refine pf_X2_10 E h0 fl_X2_52 dX2_addBarge_47 ?_
    replace h := h _ rfl
    exact ra_vret E hr dX2_addBarge_50 h
def f_X2_canAddOrder (a0 : Nat) (p1 : Int32) (M : TM) (K : Int32 → TM → Prop) : Prop := f_X2_hasPlace a0 p1 M (fun r2 M1 => ((r2 = 0 → K (0 : Int32) M1) ∧ (¬ r2 = 0 → (((30 : Int32) ≤ (M1 a0 6) → K (0 : Int32) M1) ∧ (¬ (30 : Int32) ≤ (M1 a0 6) → K (1 : Int32) M1)))))
set_option maxRecDepth 100000 in
set_option maxHeartbeats 4000000 in
theorem c_X2_canAddOrder {ad : Nat → Nat} (a0 : Nat) (h0 : IsCanal a0) (p1 : Int32) (M : TM) (K : Int32 → TM → Prop) (h : f_X2_canAddOrder a0 p1 M K) : MI yX2_canAddOrder cX2_canAddOrder 2 (some .boolean) 1 ad [.ref (ad a0), .int p1] M (fun r M' => (r = 0 ∨ r = 1) ∧ K r M') := by
  refine MI_of RX2 rfl (by decide +kernel) (Nat.le_of_ble_eq_true rfl) (fun p l e s m below meth c D tc E hr => ?_)
  unfold f_X2_canAddOrder at h
  refine ra_aload_n E dX2_canAddOrder_0 rfl 0 rfl ?_
  refine ra_iload_n E dX2_canAddOrder_1 rfl 1 rfl ?_
  refine ra_callIV (rest := []) E (c_X2_hasPlace _ h0 _ _ _ h) (lq_X2 _) cv_X2_hasPlace ml_X2_90 (by decide) (lm (h0.add (j := 0) (by decide))) (fun R => ⟨_, cel_canal tc ad h0 R⟩) rfl rfl rfl (Nat.le_of_ble_eq_true rfl) ⟨Nat.le_of_ble_eq_true rfl, Nat.le_of_ble_eq_true rfl⟩ ⟨Nat.zero_le _, Nat.zero_le _⟩ dX2_canAddOrder_2 (fun r2 M1 h => ?_)
  obtain ⟨b3, h⟩ := h
  refine ra_if_eq (tgt := 24) E dX2_canAddOrder_5 (by decide) (fun q4 => ?_) (fun q4 => ?_)
  · replace h := h.1 q4
    refine ra_iconst E dX2_canAddOrder_24 ki_0 ?_
    exact ra_zret E hr rfl dX2_canAddOrder_25 ⟨Or.inl rfl, h⟩
  · replace h := h.2 q4
    refine ra_aload_n E dX2_canAddOrder_8 rfl 0 rfl ?_
    refine gf_X2_6 E h0 fl_X2_37 dX2_canAddOrder_9 ?_
    refine ra_aload_n E dX2_canAddOrder_12 rfl 0 rfl ?_
    refine gf_X2_7 E h0 fl_X2_42 dX2_canAddOrder_13 ?_
    refine ra_alen (n := 30) (v := 30) E (lm (h0.add (by decide))) (fun R => ⟨_, (cel_ords tc ad h0) R, rfl⟩) rfl (by decide) dX2_canAddOrder_16 ?_
    refine ra_icmp_ge (tgt := 24) E dX2_canAddOrder_17 (by decide) (fun q5 => ?_) (fun q5 => ?_)
    · replace h := h.1 q5
      refine ra_iconst E dX2_canAddOrder_24 ki_0 ?_
      exact ra_zret E hr rfl dX2_canAddOrder_25 ⟨Or.inl rfl, h⟩
    · replace h := h.2 q5
      refine ra_iconst E dX2_canAddOrder_20 ki_1 ?_
      refine ra_goto (tgt := 25) E dX2_canAddOrder_21 (by decide) ?_
      exact ra_zret E hr rfl dX2_canAddOrder_25 ⟨Or.inr rfl, h⟩
def f_X2_countBargesAt_L4 (a0 : Nat) (p1 : Int32) (K : Int32 → TM → Prop) : Nat → Int32 → Int32 → Int32 → TM → Prop
  | 0, _, _, _, _ => False
  | n + 1, x1, x2, x3, M => (((M a0 4) ≤ x3 → K x2 M) ∧ (¬ (M a0 4) ≤ x3 → vp_in x3 5 ∧ ((¬ (M (a0 + 21 + 2 * x3.toNatClampNeg) 0) = x1 → f_X2_countBargesAt_L4 a0 p1 K n x1 x2 (x3 + 1) M) ∧ ((M (a0 + 21 + 2 * x3.toNatClampNeg) 0) = x1 → vp_in x3 5 ∧ f_X1_isInLock (a0 + 21 + 2 * x3.toNatClampNeg) M (fun r6 M5 => ((¬ r6 = 0 → f_X2_countBargesAt_L4 a0 p1 K n x1 x2 (x3 + 1) M5) ∧ (r6 = 0 → f_X2_countBargesAt_L4 a0 p1 K n x1 (x2 + 1) (x3 + 1) M5)))))))
set_option maxRecDepth 100000 in
set_option maxHeartbeats 4000000 in
theorem l_X2_countBargesAt_L4 {p : Program} {l : Launch} {e : Env} {s : State} {m : MethodId} {args : Array Value} {below : List Frame} {meth : Method} {c : Code} {D : va_G} {tc : Nat → ClassId} {ad : Nat → Nat} (a0 : Nat) (h0 : IsCanal a0) (p1 : Int32) {K : Int32 → TM → Prop} (E : Ev p s m args meth c D tc ad RX2 cX2_countBargesAt 4) (hr : meth.sig.returnType = (some .int)) : ∀ (n : Nat) (x1 : Int32) (x2 : Int32) (x3 : Int32) (M : TM) , f_X2_countBargesAt_L4 a0 p1 K n x1 x2 x3 M → Wa p l e (rmD 1) s m args below meth c 0 0 (MQ below (va_Qi K (EndW D tc ad) (A0 ad s.heap.size)) args s 0 0 (A0 ad s.heap.size)) D tc ad 4 M 4 [(0, .ref (ad a0)), (1, .int x1), (2, .int x2), (3, .int x3)] [] := by
  intro n
  induction n with
  | zero => intro x1 x2 x3 M  h; exact h.elim
  | succ n ih =>
    intro x1 x2 x3 M  h
    unfold f_X2_countBargesAt_L4 at h
    refine ra_iload_n E dX2_countBargesAt_4 rfl 3 rfl ?_
    refine ra_aload_n E dX2_countBargesAt_5 rfl 0 rfl ?_
    refine gf_X2_4 E h0 fl_X2_28 dX2_countBargesAt_6 ?_
    refine ra_icmp_ge (tgt := 46) E dX2_countBargesAt_9 (by decide) (fun q1 => ?_) (fun q1 => ?_)
    · replace h := h.1 q1
      refine ra_iload_n E dX2_countBargesAt_46 rfl 2 rfl ?_
      exact ra_iret E hr dX2_countBargesAt_47 h
    · replace h := h.2 q1
      refine ra_aload_n E dX2_countBargesAt_12 rfl 0 rfl ?_
      refine gf_X2_5 E h0 fl_X2_33 dX2_countBargesAt_13 ?_
      refine ra_iload_n E dX2_countBargesAt_16 rfl 3 rfl ?_
      obtain ⟨g2, h⟩ := h
      refine ra_aald E (lm (h0.add (by decide))) (cel_bars tc ad h0) rfl g2 dX2_countBargesAt_17 ?_
      refine gf_X1_0 E (isBarge_of h0 g2) fl_X2_98 dX2_countBargesAt_18 ?_
      refine ra_iload_n E dX2_countBargesAt_21 rfl 1 rfl ?_
      refine ra_icmp_ne (tgt := 40) E dX2_countBargesAt_22 (by decide) (fun q3 => ?_) (fun q3 => ?_)
      · replace h := h.1 q3
        refine ra_iinc1 (L' := [(3, _), (0, _), (1, _), (2, _)]) E dX2_countBargesAt_40 3 rfl (by decide) rfl ?_
        refine ra_goto (tgt := 4) E dX2_countBargesAt_43 (by decide) ?_
        exact ra_sub (L' := [(0, _), (1, _), (2, _), (3, _)]) [1, 2, 3, 0] rfl (ih _ _ _ _ h)
      · replace h := h.2 q3
        refine ra_aload_n E dX2_countBargesAt_25 rfl 0 rfl ?_
        refine gf_X2_5 E h0 fl_X2_33 dX2_countBargesAt_26 ?_
        refine ra_iload_n E dX2_countBargesAt_29 rfl 3 rfl ?_
        obtain ⟨g4, h⟩ := h
        refine ra_aald E (lm (h0.add (by decide))) (cel_bars tc ad h0) rfl g4 dX2_countBargesAt_30 ?_
        refine ra_callIV (rest := []) E (c_X1_isInLock _ (isBarge_of h0 g4) _ _ h) (lq_X1 _) cv_X1_isInLock ml_X2_101 (by decide) (lm (Nat.lt_of_succ_lt (isBarge_of h0 g4).lt)) (fun R => ⟨_, cel_barge tc ad (isBarge_of h0 g4) R⟩) rfl rfl rfl (Nat.le_of_ble_eq_true rfl) ⟨Nat.le_of_ble_eq_true rfl, Nat.le_of_ble_eq_true rfl⟩ ⟨Nat.zero_le _, Nat.zero_le _⟩ dX2_countBargesAt_31 (fun r6 M5 h => ?_)
        obtain ⟨b7, h⟩ := h
        refine ra_if_ne (tgt := 40) E dX2_countBargesAt_34 (by decide) (fun q8 => ?_) (fun q8 => ?_)
        · replace h := h.1 q8
          refine ra_iinc1 (L' := [(3, _), (0, _), (1, _), (2, _)]) E dX2_countBargesAt_40 3 rfl (by decide) rfl ?_
          refine ra_goto (tgt := 4) E dX2_countBargesAt_43 (by decide) ?_
          exact ra_sub (L' := [(0, _), (1, _), (2, _), (3, _)]) [1, 2, 3, 0] rfl (ih _ _ _ _ h)
        · replace h := h.2 q8
          refine ra_iinc1 (L' := [(2, _), (0, _), (1, _), (3, _)]) E dX2_countBargesAt_37 2 rfl (by decide) rfl ?_
          refine ra_iinc1 (L' := [(3, _), (2, _), (0, _), (1, _)]) E dX2_countBargesAt_40 3 rfl (by decide) rfl ?_
          refine ra_goto (tgt := 4) E dX2_countBargesAt_43 (by decide) ?_
          exact ra_sub (L' := [(0, _), (1, _), (2, _), (3, _)]) [2, 3, 1, 0] rfl (ih _ _ _ _ h)
def f_X2_countBargesAt (a0 : Nat) (p1 : Int32) (M : TM) (K : Int32 → TM → Prop) : Prop := ∃ n4, f_X2_countBargesAt_L4 a0 p1 K n4 p1 (0 : Int32) (0 : Int32) M
set_option maxRecDepth 100000 in
set_option maxHeartbeats 4000000 in
theorem c_X2_countBargesAt {ad : Nat → Nat} (a0 : Nat) (h0 : IsCanal a0) (p1 : Int32) (M : TM) (K : Int32 → TM → Prop) (h : f_X2_countBargesAt a0 p1 M K) : MI yX2_countBargesAt cX2_countBargesAt 4 (some .int) 1 ad [.ref (ad a0), .int p1] M K := by
  refine MI_of RX2 rfl (by decide +kernel) (Nat.le_of_ble_eq_true rfl) (fun p l e s m below meth c D tc E hr => ?_)
  unfold f_X2_countBargesAt at h
  refine ra_iconst E dX2_countBargesAt_0 ki_0 ?_
  refine ra_istore_n (L' := [(2, _), (0, _), (1, _)]) E dX2_countBargesAt_1 rfl (by decide) rfl ?_
  refine ra_iconst E dX2_countBargesAt_2 ki_0 ?_
  refine ra_istore_n (L' := [(3, _), (2, _), (0, _), (1, _)]) E dX2_countBargesAt_3 rfl (by decide) rfl ?_
  obtain ⟨n9, h⟩ := h
  exact ra_sub (L' := [(0, _), (1, _), (2, _), (3, _)]) [2, 3, 1, 0] rfl (l_X2_countBargesAt_L4 a0 h0 p1 E hr n9 _ _ _ _ h)
def f_X2_bowlsNotBegun_L4 (a0 : Nat) (a1 : Nat) (K : Int32 → TM → Prop) : Nat → Int32 → Int32 → TM → Prop
  | 0, _, _, _ => False
  | n + 1, x2, x3, M => (((M a1 8) ≤ x3 → K x2 M) ∧ (¬ (M a1 8) ≤ x3 → f_X1_queuedAt a1 x3 M (fun r3 M2 => f_X2_hasOrder a0 r3 M2 (fun r5 M4 => ((r5 = 0 → f_X2_bowlsNotBegun_L4 a0 a1 K n x2 (x3 + 1) M4) ∧ (¬ r5 = 0 → vp_in r3 30 ∧ ((¬ (bz (M4 (a0 + 31 + r3.toNatClampNeg) 5)) = 0 → f_X2_bowlsNotBegun_L4 a0 a1 K n x2 (x3 + 1) M4) ∧ ((bz (M4 (a0 + 31 + r3.toNatClampNeg) 5)) = 0 → vp_in r3 30 ∧ f_X2_bowlsNotBegun_L4 a0 a1 K n (x2 + (M4 (a0 + 31 + r3.toNatClampNeg) 1)) (x3 + 1) M4))))))))
set_option maxRecDepth 100000 in
set_option maxHeartbeats 4000000 in
theorem l_X2_bowlsNotBegun_L4 {p : Program} {l : Launch} {e : Env} {s : State} {m : MethodId} {args : Array Value} {below : List Frame} {meth : Method} {c : Code} {D : va_G} {tc : Nat → ClassId} {ad : Nat → Nat} (a0 : Nat) (h0 : IsCanal a0) (a1 : Nat) (h1 : IsBarge a1) {K : Int32 → TM → Prop} (E : Ev p s m args meth c D tc ad RX2 cX2_bowlsNotBegun 5) (hr : meth.sig.returnType = (some .int)) : ∀ (n : Nat) (x2 : Int32) (x3 : Int32) (M : TM) , f_X2_bowlsNotBegun_L4 a0 a1 K n x2 x3 M → Wa p l e (rmD 1) s m args below meth c 0 0 (MQ below (va_Qi K (EndW D tc ad) (A0 ad s.heap.size)) args s 0 0 (A0 ad s.heap.size)) D tc ad 5 M 4 [(0, .ref (ad a0)), (1, .ref (ad a1)), (2, .int x2), (3, .int x3)] [] := by
  intro n
  induction n with
  | zero => intro x2 x3 M  h; exact h.elim
  | succ n ih =>
    intro x2 x3 M  h
    unfold f_X2_bowlsNotBegun_L4 at h
    refine ra_iload_n E dX2_bowlsNotBegun_4 rfl 3 rfl ?_
    refine ra_aload_n E dX2_bowlsNotBegun_5 rfl 1 rfl ?_
    refine gf_X1_8 E h1 fl_X2_115 dX2_bowlsNotBegun_6 ?_
    refine ra_icmp_ge (tgt := 60) E dX2_bowlsNotBegun_9 (by decide) (fun q1 => ?_) (fun q1 => ?_)
    · replace h := h.1 q1
      refine ra_iload_n E dX2_bowlsNotBegun_60 rfl 2 rfl ?_
      exact ra_iret E hr dX2_bowlsNotBegun_61 h
    · replace h := h.2 q1
      refine ra_aload_n E dX2_bowlsNotBegun_12 rfl 1 rfl ?_
      refine ra_iload_n E dX2_bowlsNotBegun_13 rfl 3 rfl ?_
      refine ra_callIV (rest := []) E (c_X1_queuedAt _ h1 _ _ _ h) (lq_X1 _) cv_X1_queuedAt ml_X2_118 (by decide) (lm (Nat.lt_of_succ_lt h1.lt)) (fun R => ⟨_, cel_barge tc ad h1 R⟩) rfl rfl rfl (Nat.le_of_ble_eq_true rfl) ⟨Nat.le_of_ble_eq_true rfl, Nat.le_of_ble_eq_true rfl⟩ ⟨Nat.zero_le _, Nat.zero_le _⟩ dX2_bowlsNotBegun_14 (fun r3 M2 h => ?_)
      refine ra_istore (L' := [(4, _), (0, _), (1, _), (2, _), (3, _)]) E dX2_bowlsNotBegun_17 (by decide) rfl ?_
      refine ra_aload_n E dX2_bowlsNotBegun_19 rfl 1 rfl ?_
      refine ra_iload E dX2_bowlsNotBegun_20 0 rfl ?_
      refine ra_callIV (rest := []) E (c_X2_hasOrder _ h0 _ _ _ h) (lq_X2 _) cv_X2_hasOrder ml_X2_122 (by decide) (lm (h0.add (j := 0) (by decide))) (fun R => ⟨_, cel_canal tc ad h0 R⟩) rfl rfl rfl (Nat.le_of_ble_eq_true rfl) ⟨Nat.le_of_ble_eq_true rfl, Nat.le_of_ble_eq_true rfl⟩ ⟨Nat.zero_le _, Nat.zero_le _⟩ dX2_bowlsNotBegun_22 (fun r5 M4 h => ?_)
      obtain ⟨b6, h⟩ := h
      refine ra_if_eq (tgt := 54) E dX2_bowlsNotBegun_25 (by decide) (fun q7 => ?_) (fun q7 => ?_)
      · replace h := h.1 q7
        refine ra_iinc1 (L' := [(3, _), (4, _), (0, _), (1, _), (2, _)]) E dX2_bowlsNotBegun_54 4 rfl (by decide) rfl ?_
        refine ra_goto (tgt := 4) E dX2_bowlsNotBegun_57 (by decide) ?_
        exact ra_sub (L' := [(0, _), (1, _), (2, _), (3, _)]) [2, 3, 4, 0] rfl (ih _ _ _ h)
      · replace h := h.2 q7
        refine ra_aload_n E dX2_bowlsNotBegun_28 rfl 1 rfl ?_
        refine gf_X2_7 E h0 fl_X2_42 dX2_bowlsNotBegun_29 ?_
        refine ra_iload E dX2_bowlsNotBegun_32 0 rfl ?_
        obtain ⟨g8, h⟩ := h
        refine ra_aald E (lm (h0.add (by decide))) (cel_ords tc ad h0) rfl g8 dX2_bowlsNotBegun_34 ?_
        refine gf_X6_5 E (isOrder_of h0 g8) fl_X2_125 dX2_bowlsNotBegun_35 ?_
        refine ra_if_ne (tgt := 54) E dX2_bowlsNotBegun_38 (by decide) (fun q9 => ?_) (fun q9 => ?_)
        · replace h := h.1 q9
          refine ra_iinc1 (L' := [(3, _), (4, _), (0, _), (1, _), (2, _)]) E dX2_bowlsNotBegun_54 4 rfl (by decide) rfl ?_
          refine ra_goto (tgt := 4) E dX2_bowlsNotBegun_57 (by decide) ?_
          exact ra_sub (L' := [(0, _), (1, _), (2, _), (3, _)]) [2, 3, 4, 0] rfl (ih _ _ _ h)
        · replace h := h.2 q9
          refine ra_iload_n E dX2_bowlsNotBegun_41 rfl 3 rfl ?_
          refine ra_aload_n E dX2_bowlsNotBegun_42 rfl 1 rfl ?_
          refine gf_X2_7 E h0 fl_X2_42 dX2_bowlsNotBegun_43 ?_
          refine ra_iload E dX2_bowlsNotBegun_46 0 rfl ?_
          obtain ⟨g10, h⟩ := h
          refine ra_aald E (lm (h0.add (by decide))) (cel_ords tc ad h0) rfl g10 dX2_bowlsNotBegun_48 ?_
          refine gf_X6_1 E (isOrder_of h0 g10) fl_X2_129 dX2_bowlsNotBegun_49 ?_
          refine ra_iadd E dX2_bowlsNotBegun_52 ?_
          refine ra_istore_n (L' := [(2, _), (4, _), (0, _), (1, _), (3, _)]) E dX2_bowlsNotBegun_53 rfl (by decide) rfl ?_
          refine ra_iinc1 (L' := [(3, _), (2, _), (4, _), (0, _), (1, _)]) E dX2_bowlsNotBegun_54 4 rfl (by decide) rfl ?_
          refine ra_goto (tgt := 4) E dX2_bowlsNotBegun_57 (by decide) ?_
          exact ra_sub (L' := [(0, _), (1, _), (2, _), (3, _)]) [3, 4, 1, 0] rfl (ih _ _ _ h)
def f_X2_bowlsNotBegun (a0 : Nat) (a1 : Nat) (M : TM) (K : Int32 → TM → Prop) : Prop := ∃ n4, f_X2_bowlsNotBegun_L4 a0 a1 K n4 (0 : Int32) (0 : Int32) M
set_option maxRecDepth 100000 in
set_option maxHeartbeats 4000000 in
theorem c_X2_bowlsNotBegun {ad : Nat → Nat} (a0 : Nat) (h0 : IsCanal a0) (a1 : Nat) (h1 : IsBarge a1) (M : TM) (K : Int32 → TM → Prop) (h : f_X2_bowlsNotBegun a0 a1 M K) : MI yX2_bowlsNotBegun cX2_bowlsNotBegun 5 (some .int) 1 ad [.ref (ad a0), .ref (ad a1)] M K := by
  refine MI_of RX2 rfl (by decide +kernel) (Nat.le_of_ble_eq_true rfl) (fun p l e s m below meth c D tc E hr => ?_)
  unfold f_X2_bowlsNotBegun at h
  refine ra_iconst E dX2_bowlsNotBegun_0 ki_0 ?_
  refine ra_istore_n (L' := [(2, _), (0, _), (1, _)]) E dX2_bowlsNotBegun_1 rfl (by decide) rfl ?_
  refine ra_iconst E dX2_bowlsNotBegun_2 ki_0 ?_
  refine ra_istore_n (L' := [(3, _), (2, _), (0, _), (1, _)]) E dX2_bowlsNotBegun_3 rfl (by decide) rfl ?_
  obtain ⟨n11, h⟩ := h
  exact ra_sub (L' := [(0, _), (1, _), (2, _), (3, _)]) [2, 3, 1, 0] rfl (l_X2_bowlsNotBegun_L4 a0 h0 a1 h1 E hr n11 _ _ _ h)
def f_X2_firstOpenByDeadline_L6 (a0 : Nat) (K : Int32 → TM → Prop) : Nat → Int32 → Int32 → Int32 → TM → Prop
  | 0, _, _, _, _ => False
  | n + 1, x1, x2, x3, M => (((M a0 6) ≤ x3 → K x1 M) ∧ (¬ (M a0 6) ≤ x3 → vp_in x3 30 ∧ vp_in (M (a0 + 31 + x3.toNatClampNeg) 6) 5 ∧ ((¬ (M (a0 + 31 + x3.toNatClampNeg) 6) = (0 : Int32) → f_X2_firstOpenByDeadline_L6 a0 K n x1 x2 (x3 + 1) M) ∧ ((M (a0 + 31 + x3.toNatClampNeg) 6) = (0 : Int32) → ((x1 = (-1 : Int32) → vp_in x3 30 ∧ f_X2_firstOpenByDeadline_L6 a0 K n x3 (M (a0 + 31 + x3.toNatClampNeg) 4) (x3 + 1) M) ∧ (¬ x1 = (-1 : Int32) → vp_in x3 30 ∧ ((x2 ≤ (M (a0 + 31 + x3.toNatClampNeg) 4) → f_X2_firstOpenByDeadline_L6 a0 K n x1 x2 (x3 + 1) M) ∧ (¬ x2 ≤ (M (a0 + 31 + x3.toNatClampNeg) 4) → vp_in x3 30 ∧ f_X2_firstOpenByDeadline_L6 a0 K n x3 (M (a0 + 31 + x3.toNatClampNeg) 4) (x3 + 1) M))))))))
set_option maxRecDepth 100000 in
set_option maxHeartbeats 4000000 in
theorem l_X2_firstOpenByDeadline_L6 {p : Program} {l : Launch} {e : Env} {s : State} {m : MethodId} {args : Array Value} {below : List Frame} {meth : Method} {c : Code} {D : va_G} {tc : Nat → ClassId} {ad : Nat → Nat} (a0 : Nat) (h0 : IsCanal a0) {K : Int32 → TM → Prop} (E : Ev p s m args meth c D tc ad RX2 cX2_firstOpenByDeadline 4) (hr : meth.sig.returnType = (some .int)) : ∀ (n : Nat) (x1 : Int32) (x2 : Int32) (x3 : Int32) (M : TM) , f_X2_firstOpenByDeadline_L6 a0 K n x1 x2 x3 M → Wa p l e (rmD 0) s m args below meth c 0 0 (MQ below (va_Qi K (EndW D tc ad) (A0 ad s.heap.size)) args s 0 0 (A0 ad s.heap.size)) D tc ad 4 M 6 [(0, .ref (ad a0)), (1, .int x1), (2, .int x2), (3, .int x3)] [] := by
  intro n
  induction n with
  | zero => intro x1 x2 x3 M  h; exact h.elim
  | succ n ih =>
    intro x1 x2 x3 M  h
    unfold f_X2_firstOpenByDeadline_L6 at h
    refine ra_iload_n E dX2_firstOpenByDeadline_6 rfl 3 rfl ?_
    refine ra_aload_n E dX2_firstOpenByDeadline_7 rfl 0 rfl ?_
    refine gf_X2_6 E h0 fl_X2_37 dX2_firstOpenByDeadline_8 ?_
    refine ra_icmp_ge (tgt := 65) E dX2_firstOpenByDeadline_11 (by decide) (fun q1 => ?_) (fun q1 => ?_)
    · replace h := h.1 q1
      refine ra_iload_n E dX2_firstOpenByDeadline_65 rfl 1 rfl ?_
      exact ra_iret E hr dX2_firstOpenByDeadline_66 h
    · replace h := h.2 q1
      refine ra_aload_n E dX2_firstOpenByDeadline_14 rfl 0 rfl ?_
      refine gf_X2_7 E h0 fl_X2_42 dX2_firstOpenByDeadline_15 ?_
      refine ra_iload_n E dX2_firstOpenByDeadline_18 rfl 3 rfl ?_
      obtain ⟨g2, h⟩ := h
      refine ra_aald E (lm (h0.add (by decide))) (cel_ords tc ad h0) rfl g2 dX2_firstOpenByDeadline_19 ?_
      refine gf_X6_6 E (isOrder_of h0 g2) fl_X2_132 dX2_firstOpenByDeadline_20 ?_
      refine gs_O (i := 0) E 0 (by decide) rfl (by decide) fl_X2_136 dX2_firstOpenByDeadline_23 ?_
      obtain ⟨g4, h⟩ := h
      refine acmpO_ne (tgt := 59) E g4 (vpl _ _ (by decide)) dX2_firstOpenByDeadline_26 (by decide) (fun q3 => ?_) (fun q3 => ?_)
      · replace h := h.1 q3
        refine ra_iinc1 (L' := [(3, _), (0, _), (1, _), (2, _)]) E dX2_firstOpenByDeadline_59 3 rfl (by decide) rfl ?_
        refine ra_goto (tgt := 6) E dX2_firstOpenByDeadline_62 (by decide) ?_
        exact ra_sub (L' := [(0, _), (1, _), (2, _), (3, _)]) [1, 2, 3, 0] rfl (ih _ _ _ _ h)
      · replace h := h.2 q3
        refine ra_iload_n E dX2_firstOpenByDeadline_29 rfl 1 rfl ?_
        refine ra_iconst E dX2_firstOpenByDeadline_30 ki_m1 ?_
        refine ra_icmp_eq (tgt := 47) E dX2_firstOpenByDeadline_31 (by decide) (fun q5 => ?_) (fun q5 => ?_)
        · replace h := h.1 q5
          refine ra_iload_n E dX2_firstOpenByDeadline_47 rfl 3 rfl ?_
          refine ra_istore_n (L' := [(1, _), (0, _), (2, _), (3, _)]) E dX2_firstOpenByDeadline_48 rfl (by decide) rfl ?_
          refine ra_aload_n E dX2_firstOpenByDeadline_49 rfl 1 rfl ?_
          refine gf_X2_7 E h0 fl_X2_42 dX2_firstOpenByDeadline_50 ?_
          refine ra_iload_n E dX2_firstOpenByDeadline_53 rfl 3 rfl ?_
          obtain ⟨g6, h⟩ := h
          refine ra_aald E (lm (h0.add (by decide))) (cel_ords tc ad h0) rfl g6 dX2_firstOpenByDeadline_54 ?_
          refine gf_X6_4 E (isOrder_of h0 g6) fl_X2_141 dX2_firstOpenByDeadline_55 ?_
          refine ra_istore_n (L' := [(2, _), (1, _), (0, _), (3, _)]) E dX2_firstOpenByDeadline_58 rfl (by decide) rfl ?_
          refine ra_iinc1 (L' := [(3, _), (2, _), (1, _), (0, _)]) E dX2_firstOpenByDeadline_59 3 rfl (by decide) rfl ?_
          refine ra_goto (tgt := 6) E dX2_firstOpenByDeadline_62 (by decide) ?_
          exact ra_sub (L' := [(0, _), (1, _), (2, _), (3, _)]) [3, 2, 1, 0] rfl (ih _ _ _ _ h)
        · replace h := h.2 q5
          refine ra_aload_n E dX2_firstOpenByDeadline_34 rfl 0 rfl ?_
          refine gf_X2_7 E h0 fl_X2_42 dX2_firstOpenByDeadline_35 ?_
          refine ra_iload_n E dX2_firstOpenByDeadline_38 rfl 3 rfl ?_
          obtain ⟨g7, h⟩ := h
          refine ra_aald E (lm (h0.add (by decide))) (cel_ords tc ad h0) rfl g7 dX2_firstOpenByDeadline_39 ?_
          refine gf_X6_4 E (isOrder_of h0 g7) fl_X2_141 dX2_firstOpenByDeadline_40 ?_
          refine ra_iload_n E dX2_firstOpenByDeadline_43 rfl 2 rfl ?_
          refine ra_icmp_ge (tgt := 59) E dX2_firstOpenByDeadline_44 (by decide) (fun q8 => ?_) (fun q8 => ?_)
          · replace h := h.1 q8
            refine ra_iinc1 (L' := [(3, _), (0, _), (1, _), (2, _)]) E dX2_firstOpenByDeadline_59 3 rfl (by decide) rfl ?_
            refine ra_goto (tgt := 6) E dX2_firstOpenByDeadline_62 (by decide) ?_
            exact ra_sub (L' := [(0, _), (1, _), (2, _), (3, _)]) [1, 2, 3, 0] rfl (ih _ _ _ _ h)
          · replace h := h.2 q8
            refine ra_iload_n E dX2_firstOpenByDeadline_47 rfl 3 rfl ?_
            refine ra_istore_n (L' := [(1, _), (0, _), (2, _), (3, _)]) E dX2_firstOpenByDeadline_48 rfl (by decide) rfl ?_
            refine ra_aload_n E dX2_firstOpenByDeadline_49 rfl 1 rfl ?_
            refine gf_X2_7 E h0 fl_X2_42 dX2_firstOpenByDeadline_50 ?_
            refine ra_iload_n E dX2_firstOpenByDeadline_53 rfl 3 rfl ?_
            obtain ⟨g9, h⟩ := h
            refine ra_aald E (lm (h0.add (by decide))) (cel_ords tc ad h0) rfl g9 dX2_firstOpenByDeadline_54 ?_
            refine gf_X6_4 E (isOrder_of h0 g9) fl_X2_141 dX2_firstOpenByDeadline_55 ?_
            refine ra_istore_n (L' := [(2, _), (1, _), (0, _), (3, _)]) E dX2_firstOpenByDeadline_58 rfl (by decide) rfl ?_
            refine ra_iinc1 (L' := [(3, _), (2, _), (1, _), (0, _)]) E dX2_firstOpenByDeadline_59 3 rfl (by decide) rfl ?_
            refine ra_goto (tgt := 6) E dX2_firstOpenByDeadline_62 (by decide) ?_
            exact ra_sub (L' := [(0, _), (1, _), (2, _), (3, _)]) [3, 2, 1, 0] rfl (ih _ _ _ _ h)
def f_X2_firstOpenByDeadline (a0 : Nat) (M : TM) (K : Int32 → TM → Prop) : Prop := ∃ n6, f_X2_firstOpenByDeadline_L6 a0 K n6 (-1 : Int32) (0 : Int32) (0 : Int32) M
set_option maxRecDepth 100000 in
set_option maxHeartbeats 4000000 in
theorem c_X2_firstOpenByDeadline {ad : Nat → Nat} (a0 : Nat) (h0 : IsCanal a0) (M : TM) (K : Int32 → TM → Prop) (h : f_X2_firstOpenByDeadline a0 M K) : MI yX2_firstOpenByDeadline cX2_firstOpenByDeadline 4 (some .int) 0 ad [.ref (ad a0)] M K := by
  refine MI_of RX2 rfl (by decide +kernel) (Nat.le_of_ble_eq_true rfl) (fun p l e s m below meth c D tc E hr => ?_)
  unfold f_X2_firstOpenByDeadline at h
  refine ra_iconst E dX2_firstOpenByDeadline_0 ki_m1 ?_
  refine ra_istore_n (L' := [(1, _), (0, _)]) E dX2_firstOpenByDeadline_1 rfl (by decide) rfl ?_
  refine ra_iconst E dX2_firstOpenByDeadline_2 ki_0 ?_
  refine ra_istore_n (L' := [(2, _), (1, _), (0, _)]) E dX2_firstOpenByDeadline_3 rfl (by decide) rfl ?_
  refine ra_iconst E dX2_firstOpenByDeadline_4 ki_0 ?_
  refine ra_istore_n (L' := [(3, _), (2, _), (1, _), (0, _)]) E dX2_firstOpenByDeadline_5 rfl (by decide) rfl ?_
  obtain ⟨n10, h⟩ := h
  exact ra_sub (L' := [(0, _), (1, _), (2, _), (3, _)]) [3, 2, 1, 0] rfl (l_X2_firstOpenByDeadline_L6 a0 h0 E hr n10 _ _ _ _ h)
def f_X2_sumOfCleanPairs_L4 (a0 : Nat) (K : Int32 → TM → Prop) : Nat → Int32 → Int32 → TM → Prop
  | 0, _, _, _ => False
  | n + 1, x1, x2, M => (((M a0 4) ≤ x2 → K x1 M) ∧ (¬ (M a0 4) ≤ x2 → vp_in x2 5 ∧ f_X2_sumOfCleanPairs_L4 a0 K n (x1 + (M (a0 + 21 + 2 * x2.toNatClampNeg) 5)) (x2 + 1) M))
set_option maxRecDepth 100000 in
set_option maxHeartbeats 4000000 in
theorem l_X2_sumOfCleanPairs_L4 {p : Program} {l : Launch} {e : Env} {s : State} {m : MethodId} {args : Array Value} {below : List Frame} {meth : Method} {c : Code} {D : va_G} {tc : Nat → ClassId} {ad : Nat → Nat} (a0 : Nat) (h0 : IsCanal a0) {K : Int32 → TM → Prop} (E : Ev p s m args meth c D tc ad RX2 cX2_sumOfCleanPairs 3) (hr : meth.sig.returnType = (some .int)) : ∀ (n : Nat) (x1 : Int32) (x2 : Int32) (M : TM) , f_X2_sumOfCleanPairs_L4 a0 K n x1 x2 M → Wa p l e (rmD 0) s m args below meth c 0 0 (MQ below (va_Qi K (EndW D tc ad) (A0 ad s.heap.size)) args s 0 0 (A0 ad s.heap.size)) D tc ad 3 M 4 [(0, .ref (ad a0)), (1, .int x1), (2, .int x2)] [] := by
  intro n
  induction n with
  | zero => intro x1 x2 M  h; exact h.elim
  | succ n ih =>
    intro x1 x2 M  h
    unfold f_X2_sumOfCleanPairs_L4 at h
    refine ra_iload_n E dX2_sumOfCleanPairs_4 rfl 2 rfl ?_
    refine ra_aload_n E dX2_sumOfCleanPairs_5 rfl 0 rfl ?_
    refine gf_X2_4 E h0 fl_X2_28 dX2_sumOfCleanPairs_6 ?_
    refine ra_icmp_ge (tgt := 30) E dX2_sumOfCleanPairs_9 (by decide) (fun q1 => ?_) (fun q1 => ?_)
    · replace h := h.1 q1
      refine ra_iload_n E dX2_sumOfCleanPairs_30 rfl 1 rfl ?_
      exact ra_iret E hr dX2_sumOfCleanPairs_31 h
    · replace h := h.2 q1
      refine ra_iload_n E dX2_sumOfCleanPairs_12 rfl 1 rfl ?_
      refine ra_aload_n E dX2_sumOfCleanPairs_13 rfl 0 rfl ?_
      refine gf_X2_5 E h0 fl_X2_33 dX2_sumOfCleanPairs_14 ?_
      refine ra_iload_n E dX2_sumOfCleanPairs_17 rfl 2 rfl ?_
      obtain ⟨g2, h⟩ := h
      refine ra_aald E (lm (h0.add (by decide))) (cel_bars tc ad h0) rfl g2 dX2_sumOfCleanPairs_18 ?_
      refine gf_X1_5 E (isBarge_of h0 g2) fl_X2_144 dX2_sumOfCleanPairs_19 ?_
      refine ra_iadd E dX2_sumOfCleanPairs_22 ?_
      refine ra_istore_n (L' := [(1, _), (0, _), (2, _)]) E dX2_sumOfCleanPairs_23 rfl (by decide) rfl ?_
      refine ra_iinc1 (L' := [(2, _), (1, _), (0, _)]) E dX2_sumOfCleanPairs_24 2 rfl (by decide) rfl ?_
      refine ra_goto (tgt := 4) E dX2_sumOfCleanPairs_27 (by decide) ?_
      exact ra_sub (L' := [(0, _), (1, _), (2, _)]) [2, 1, 0] rfl (ih _ _ _ h)
def f_X2_sumOfCleanPairs (a0 : Nat) (M : TM) (K : Int32 → TM → Prop) : Prop := ∃ n4, f_X2_sumOfCleanPairs_L4 a0 K n4 (0 : Int32) (0 : Int32) M
set_option maxRecDepth 100000 in
set_option maxHeartbeats 4000000 in
theorem c_X2_sumOfCleanPairs {ad : Nat → Nat} (a0 : Nat) (h0 : IsCanal a0) (M : TM) (K : Int32 → TM → Prop) (h : f_X2_sumOfCleanPairs a0 M K) : MI yX2_sumOfCleanPairs cX2_sumOfCleanPairs 3 (some .int) 0 ad [.ref (ad a0)] M K := by
  refine MI_of RX2 rfl (by decide +kernel) (Nat.le_of_ble_eq_true rfl) (fun p l e s m below meth c D tc E hr => ?_)
  unfold f_X2_sumOfCleanPairs at h
  refine ra_iconst E dX2_sumOfCleanPairs_0 ki_0 ?_
  refine ra_istore_n (L' := [(1, _), (0, _)]) E dX2_sumOfCleanPairs_1 rfl (by decide) rfl ?_
  refine ra_iconst E dX2_sumOfCleanPairs_2 ki_0 ?_
  refine ra_istore_n (L' := [(2, _), (1, _), (0, _)]) E dX2_sumOfCleanPairs_3 rfl (by decide) rfl ?_
  obtain ⟨n3, h⟩ := h
  exact ra_sub (L' := [(0, _), (1, _), (2, _)]) [2, 1, 0] rfl (l_X2_sumOfCleanPairs_L4 a0 h0 E hr n3 _ _ _ h)
def f_X2_pairsGap_L35 (a0 : Nat) (K : Int32 → TM → Prop) : Nat → Int32 → Int32 → TM → Prop
  | 0, _, _, _ => False
  | n + 1, x1, x2, M => (((16 : Int32) ≤ x2 → K (if 0 ≤ ((M a0 10) - x1) then ((M a0 10) - x1) else 0 - ((M a0 10) - x1)) M) ∧ (¬ (16 : Int32) ≤ x2 → vp_in x2 16 ∧ f_X2_pairsGap_L35 a0 K n (x1 + (M (a0 + 2) x2.toNatClampNeg)) (x2 + 1) M))
set_option maxRecDepth 100000 in
set_option maxHeartbeats 4000000 in
theorem l_X2_pairsGap_L35 {p : Program} {l : Launch} {e : Env} {s : State} {m : MethodId} {args : Array Value} {below : List Frame} {meth : Method} {c : Code} {D : va_G} {tc : Nat → ClassId} {ad : Nat → Nat} (a0 : Nat) (h0 : IsCanal a0) {K : Int32 → TM → Prop} (E : Ev p s m args meth c D tc ad RX2 cX2_pairsGap 3) (hr : meth.sig.returnType = (some .int)) : ∀ (n : Nat) (x1 : Int32) (x2 : Int32) (M : TM) , f_X2_pairsGap_L35 a0 K n x1 x2 M → Wa p l e (rmD 1) s m args below meth c 0 0 (MQ below (va_Qi K (EndW D tc ad) (A0 ad s.heap.size)) args s 0 0 (A0 ad s.heap.size)) D tc ad 3 M 35 [(0, .ref (ad a0)), (1, .int x1), (2, .int x2)] [] := by
  intro n
  induction n with
  | zero => intro x1 x2 M  h; exact h.elim
  | succ n ih =>
    intro x1 x2 M  h
    unfold f_X2_pairsGap_L35 at h
    refine ra_iload_n E dX2_pairsGap_35 rfl 2 rfl ?_
    refine ra_aload_n E dX2_pairsGap_36 rfl 0 rfl ?_
    refine gf_X2_2 E h0 fl_X2_21 dX2_pairsGap_37 ?_
    refine ra_alen (n := 16) (v := 16) E (lm (h0.add (by decide))) (fun R => ⟨_, (cel_used tc ad h0) R, rfl⟩) rfl (by decide) dX2_pairsGap_40 ?_
    refine ra_icmp_ge (tgt := 59) E dX2_pairsGap_41 (by decide) (fun q4 => ?_) (fun q4 => ?_)
    · replace h := h.1 q4
      refine ra_aload_n E dX2_pairsGap_59 rfl 0 rfl ?_
      refine gf_X2_10 E h0 fl_X2_52 dX2_pairsGap_60 ?_
      refine ra_iload_n E dX2_pairsGap_63 rfl 1 rfl ?_
      refine ra_isub E dX2_pairsGap_64 ?_
      refine ra_mabs E ml_X2_154 ⟨Nat.le_of_ble_eq_true rfl, Nat.le_of_ble_eq_true rfl⟩ ⟨Nat.zero_le _, Nat.zero_le _⟩ dX2_pairsGap_65 ?_
      exact ra_iret E hr dX2_pairsGap_68 h
    · replace h := h.2 q4
      refine ra_iload_n E dX2_pairsGap_44 rfl 1 rfl ?_
      refine ra_aload_n E dX2_pairsGap_45 rfl 0 rfl ?_
      refine gf_X2_2 E h0 fl_X2_21 dX2_pairsGap_46 ?_
      refine ra_iload_n E dX2_pairsGap_49 rfl 2 rfl ?_
      obtain ⟨g5, h⟩ := h
      refine ra_iald E (lm (h0.add (by decide))) (cel_used tc ad h0) g5 dX2_pairsGap_50 ?_
      refine ra_iadd E dX2_pairsGap_51 ?_
      refine ra_istore_n (L' := [(1, _), (0, _), (2, _)]) E dX2_pairsGap_52 rfl (by decide) rfl ?_
      refine ra_iinc1 (L' := [(2, _), (1, _), (0, _)]) E dX2_pairsGap_53 2 rfl (by decide) rfl ?_
      refine ra_goto (tgt := 35) E dX2_pairsGap_56 (by decide) ?_
      exact ra_sub (L' := [(0, _), (1, _), (2, _)]) [2, 1, 0] rfl (ih _ _ _ h)
def f_X2_pairsGap_L7 (a0 : Nat) (K : Int32 → TM → Prop) : Nat → Int32 → Int32 → TM → Prop
  | 0, _, _, _ => False
  | n + 1, x1, x2, M => (((M a0 4) ≤ x2 → ∃ n35, f_X2_pairsGap_L35 a0 K n35 x1 (0 : Int32) M) ∧ (¬ (M a0 4) ≤ x2 → vp_in x2 5 ∧ f_X2_pairsGap_L7 a0 K n (x1 + (M (a0 + 21 + 2 * x2.toNatClampNeg) 6)) (x2 + 1) M))
set_option maxRecDepth 100000 in
set_option maxHeartbeats 4000000 in
theorem l_X2_pairsGap_L7 {p : Program} {l : Launch} {e : Env} {s : State} {m : MethodId} {args : Array Value} {below : List Frame} {meth : Method} {c : Code} {D : va_G} {tc : Nat → ClassId} {ad : Nat → Nat} (a0 : Nat) (h0 : IsCanal a0) {K : Int32 → TM → Prop} (E : Ev p s m args meth c D tc ad RX2 cX2_pairsGap 3) (hr : meth.sig.returnType = (some .int)) : ∀ (n : Nat) (x1 : Int32) (x2 : Int32) (M : TM) , f_X2_pairsGap_L7 a0 K n x1 x2 M → Wa p l e (rmD 1) s m args below meth c 0 0 (MQ below (va_Qi K (EndW D tc ad) (A0 ad s.heap.size)) args s 0 0 (A0 ad s.heap.size)) D tc ad 3 M 7 [(0, .ref (ad a0)), (1, .int x1), (2, .int x2)] [] := by
  intro n
  induction n with
  | zero => intro x1 x2 M  h; exact h.elim
  | succ n ih =>
    intro x1 x2 M  h
    unfold f_X2_pairsGap_L7 at h
    refine ra_iload_n E dX2_pairsGap_7 rfl 2 rfl ?_
    refine ra_aload_n E dX2_pairsGap_8 rfl 0 rfl ?_
    refine gf_X2_4 E h0 fl_X2_28 dX2_pairsGap_9 ?_
    refine ra_icmp_ge (tgt := 33) E dX2_pairsGap_12 (by decide) (fun q3 => ?_) (fun q3 => ?_)
    · replace h := h.1 q3
      refine ra_iconst E dX2_pairsGap_33 ki_0 ?_
      refine ra_istore_n (L' := [(2, _), (0, _), (1, _)]) E dX2_pairsGap_34 rfl (by decide) rfl ?_
      obtain ⟨n6, h⟩ := h
      exact ra_sub (L' := [(0, _), (1, _), (2, _)]) [1, 2, 0] rfl (l_X2_pairsGap_L35 a0 h0 E hr n6 _ _ _ h)
    · replace h := h.2 q3
      refine ra_iload_n E dX2_pairsGap_15 rfl 1 rfl ?_
      refine ra_aload_n E dX2_pairsGap_16 rfl 0 rfl ?_
      refine gf_X2_5 E h0 fl_X2_33 dX2_pairsGap_17 ?_
      refine ra_iload_n E dX2_pairsGap_20 rfl 2 rfl ?_
      obtain ⟨g7, h⟩ := h
      refine ra_aald E (lm (h0.add (by decide))) (cel_bars tc ad h0) rfl g7 dX2_pairsGap_21 ?_
      refine gf_X1_6 E (isBarge_of h0 g7) fl_X2_151 dX2_pairsGap_22 ?_
      refine ra_iadd E dX2_pairsGap_25 ?_
      refine ra_istore_n (L' := [(1, _), (0, _), (2, _)]) E dX2_pairsGap_26 rfl (by decide) rfl ?_
      refine ra_iinc1 (L' := [(2, _), (1, _), (0, _)]) E dX2_pairsGap_27 2 rfl (by decide) rfl ?_
      refine ra_goto (tgt := 7) E dX2_pairsGap_30 (by decide) ?_
      exact ra_sub (L' := [(0, _), (1, _), (2, _)]) [2, 1, 0] rfl (ih _ _ _ h)
def f_X2_pairsGap (a0 : Nat) (M : TM) (K : Int32 → TM → Prop) : Prop := f_X2_sumOfCleanPairs a0 M (fun r2 M1 => ∃ n7, f_X2_pairsGap_L7 a0 K n7 r2 (0 : Int32) M1)
set_option maxRecDepth 100000 in
set_option maxHeartbeats 4000000 in
theorem c_X2_pairsGap {ad : Nat → Nat} (a0 : Nat) (h0 : IsCanal a0) (M : TM) (K : Int32 → TM → Prop) (h : f_X2_pairsGap a0 M K) : MI yX2_pairsGap cX2_pairsGap 3 (some .int) 1 ad [.ref (ad a0)] M K := by
  refine MI_of RX2 rfl (by decide +kernel) (Nat.le_of_ble_eq_true rfl) (fun p l e s m below meth c D tc E hr => ?_)
  unfold f_X2_pairsGap at h
  refine ra_aload_n E dX2_pairsGap_0 rfl 0 rfl ?_
  refine ra_callIV (rest := []) E (c_X2_sumOfCleanPairs _ h0 _ _ h) (lq_X2 _) cv_X2_sumOfCleanPairs ml_X2_147 (by decide) (lm (h0.add (j := 0) (by decide))) (fun R => ⟨_, cel_canal tc ad h0 R⟩) rfl rfl rfl (Nat.le_of_ble_eq_true rfl) ⟨Nat.le_of_ble_eq_true rfl, Nat.le_of_ble_eq_true rfl⟩ ⟨Nat.zero_le _, Nat.zero_le _⟩ dX2_pairsGap_1 (fun r2 M1 h => ?_)
  refine ra_istore_n (L' := [(1, _), (0, _)]) E dX2_pairsGap_4 rfl (by decide) rfl ?_
  refine ra_iconst E dX2_pairsGap_5 ki_0 ?_
  refine ra_istore_n (L' := [(2, _), (1, _), (0, _)]) E dX2_pairsGap_6 rfl (by decide) rfl ?_
  obtain ⟨n8, h⟩ := h
  exact ra_sub (L' := [(0, _), (1, _), (2, _)]) [2, 1, 0] rfl (l_X2_pairsGap_L7 a0 h0 E hr n8 _ _ _ h)
def f_X2_bowlsGap_L4 (a0 : Nat) (K : Int32 → TM → Prop) : Nat → Int32 → Int32 → TM → Prop
  | 0, _, _, _ => False
  | n + 1, x1, x2, M => (((16 : Int32) ≤ x2 → K (if 0 ≤ ((M a0 11) - x1) then ((M a0 11) - x1) else 0 - ((M a0 11) - x1)) M) ∧ (¬ (16 : Int32) ≤ x2 → vp_in x2 16 ∧ f_X2_bowlsGap_L4 a0 K n (x1 + (M (a0 + 3) x2.toNatClampNeg)) (x2 + 1) M))
set_option maxRecDepth 100000 in
set_option maxHeartbeats 4000000 in
theorem l_X2_bowlsGap_L4 {p : Program} {l : Launch} {e : Env} {s : State} {m : MethodId} {args : Array Value} {below : List Frame} {meth : Method} {c : Code} {D : va_G} {tc : Nat → ClassId} {ad : Nat → Nat} (a0 : Nat) (h0 : IsCanal a0) {K : Int32 → TM → Prop} (E : Ev p s m args meth c D tc ad RX2 cX2_bowlsGap 3) (hr : meth.sig.returnType = (some .int)) : ∀ (n : Nat) (x1 : Int32) (x2 : Int32) (M : TM) , f_X2_bowlsGap_L4 a0 K n x1 x2 M → Wa p l e (rmD 1) s m args below meth c 0 0 (MQ below (va_Qi K (EndW D tc ad) (A0 ad s.heap.size)) args s 0 0 (A0 ad s.heap.size)) D tc ad 3 M 4 [(0, .ref (ad a0)), (1, .int x1), (2, .int x2)] [] := by
  intro n
  induction n with
  | zero => intro x1 x2 M  h; exact h.elim
  | succ n ih =>
    intro x1 x2 M  h
    unfold f_X2_bowlsGap_L4 at h
    refine ra_iload_n E dX2_bowlsGap_4 rfl 2 rfl ?_
    refine ra_aload_n E dX2_bowlsGap_5 rfl 0 rfl ?_
    refine gf_X2_3 E h0 fl_X2_25 dX2_bowlsGap_6 ?_
    refine ra_alen (n := 16) (v := 16) E (lm (h0.add (by decide))) (fun R => ⟨_, (cel_eat tc ad h0) R, rfl⟩) rfl (by decide) dX2_bowlsGap_9 ?_
    refine ra_icmp_ge (tgt := 28) E dX2_bowlsGap_10 (by decide) (fun q1 => ?_) (fun q1 => ?_)
    · replace h := h.1 q1
      refine ra_aload_n E dX2_bowlsGap_28 rfl 0 rfl ?_
      refine gf_X2_11 E h0 fl_X2_55 dX2_bowlsGap_29 ?_
      refine ra_iload_n E dX2_bowlsGap_32 rfl 1 rfl ?_
      refine ra_isub E dX2_bowlsGap_33 ?_
      refine ra_mabs E ml_X2_154 ⟨Nat.le_of_ble_eq_true rfl, Nat.le_of_ble_eq_true rfl⟩ ⟨Nat.zero_le _, Nat.zero_le _⟩ dX2_bowlsGap_34 ?_
      exact ra_iret E hr dX2_bowlsGap_37 h
    · replace h := h.2 q1
      refine ra_iload_n E dX2_bowlsGap_13 rfl 1 rfl ?_
      refine ra_aload_n E dX2_bowlsGap_14 rfl 0 rfl ?_
      refine gf_X2_3 E h0 fl_X2_25 dX2_bowlsGap_15 ?_
      refine ra_iload_n E dX2_bowlsGap_18 rfl 2 rfl ?_
      obtain ⟨g2, h⟩ := h
      refine ra_iald E (lm (h0.add (by decide))) (cel_eat tc ad h0) g2 dX2_bowlsGap_19 ?_
      refine ra_iadd E dX2_bowlsGap_20 ?_
      refine ra_istore_n (L' := [(1, _), (0, _), (2, _)]) E dX2_bowlsGap_21 rfl (by decide) rfl ?_
      refine ra_iinc1 (L' := [(2, _), (1, _), (0, _)]) E dX2_bowlsGap_22 2 rfl (by decide) rfl ?_
      refine ra_goto (tgt := 4) E dX2_bowlsGap_25 (by decide) ?_
      exact ra_sub (L' := [(0, _), (1, _), (2, _)]) [2, 1, 0] rfl (ih _ _ _ h)
def f_X2_bowlsGap (a0 : Nat) (M : TM) (K : Int32 → TM → Prop) : Prop := ∃ n4, f_X2_bowlsGap_L4 a0 K n4 (0 : Int32) (0 : Int32) M
set_option maxRecDepth 100000 in
set_option maxHeartbeats 4000000 in
theorem c_X2_bowlsGap {ad : Nat → Nat} (a0 : Nat) (h0 : IsCanal a0) (M : TM) (K : Int32 → TM → Prop) (h : f_X2_bowlsGap a0 M K) : MI yX2_bowlsGap cX2_bowlsGap 3 (some .int) 1 ad [.ref (ad a0)] M K := by
  refine MI_of RX2 rfl (by decide +kernel) (Nat.le_of_ble_eq_true rfl) (fun p l e s m below meth c D tc E hr => ?_)
  unfold f_X2_bowlsGap at h
  refine ra_iconst E dX2_bowlsGap_0 ki_0 ?_
  refine ra_istore_n (L' := [(1, _), (0, _)]) E dX2_bowlsGap_1 rfl (by decide) rfl ?_
  refine ra_iconst E dX2_bowlsGap_2 ki_0 ?_
  refine ra_istore_n (L' := [(2, _), (1, _), (0, _)]) E dX2_bowlsGap_3 rfl (by decide) rfl ?_
  obtain ⟨n3, h⟩ := h
  exact ra_sub (L' := [(0, _), (1, _), (2, _)]) [2, 1, 0] rfl (l_X2_bowlsGap_L4 a0 h0 E hr n3 _ _ _ h)
def f_X2_wasEaten (a0 : Nat) (p1 : Int32) (M : TM) (K : Int32 → TM → Prop) : Prop := f_X2_hasOrder a0 p1 M (fun r2 M1 => ((r2 = 0 → K (0 : Int32) M1) ∧ (¬ r2 = 0 → vp_in p1 30 ∧ vp_in (M1 (a0 + 31 + p1.toNatClampNeg) 6) 5 ∧ ((¬ (M1 (a0 + 31 + p1.toNatClampNeg) 6) = (3 : Int32) → K (0 : Int32) M1) ∧ ((M1 (a0 + 31 + p1.toNatClampNeg) 6) = (3 : Int32) → K (1 : Int32) M1)))))
set_option maxRecDepth 100000 in
set_option maxHeartbeats 4000000 in
theorem c_X2_wasEaten {ad : Nat → Nat} (a0 : Nat) (h0 : IsCanal a0) (p1 : Int32) (M : TM) (K : Int32 → TM → Prop) (h : f_X2_wasEaten a0 p1 M K) : MI yX2_wasEaten cX2_wasEaten 2 (some .boolean) 1 ad [.ref (ad a0), .int p1] M (fun r M' => (r = 0 ∨ r = 1) ∧ K r M') := by
  refine MI_of RX2 rfl (by decide +kernel) (Nat.le_of_ble_eq_true rfl) (fun p l e s m below meth c D tc E hr => ?_)
  unfold f_X2_wasEaten at h
  refine ra_aload_n E dX2_wasEaten_0 rfl 0 rfl ?_
  refine ra_iload_n E dX2_wasEaten_1 rfl 1 rfl ?_
  refine ra_callIV (rest := []) E (c_X2_hasOrder _ h0 _ _ _ h) (lq_X2 _) cv_X2_hasOrder ml_X2_122 (by decide) (lm (h0.add (j := 0) (by decide))) (fun R => ⟨_, cel_canal tc ad h0 R⟩) rfl rfl rfl (Nat.le_of_ble_eq_true rfl) ⟨Nat.le_of_ble_eq_true rfl, Nat.le_of_ble_eq_true rfl⟩ ⟨Nat.zero_le _, Nat.zero_le _⟩ dX2_wasEaten_2 (fun r2 M1 h => ?_)
  obtain ⟨b3, h⟩ := h
  refine ra_if_eq (tgt := 27) E dX2_wasEaten_5 (by decide) (fun q4 => ?_) (fun q4 => ?_)
  · replace h := h.1 q4
    refine ra_iconst E dX2_wasEaten_27 ki_0 ?_
    exact ra_zret E hr rfl dX2_wasEaten_28 ⟨Or.inl rfl, h⟩
  · replace h := h.2 q4
    refine ra_aload_n E dX2_wasEaten_8 rfl 0 rfl ?_
    refine gf_X2_7 E h0 fl_X2_42 dX2_wasEaten_9 ?_
    refine ra_iload_n E dX2_wasEaten_12 rfl 1 rfl ?_
    obtain ⟨g5, h⟩ := h
    refine ra_aald E (lm (h0.add (by decide))) (cel_ords tc ad h0) rfl g5 dX2_wasEaten_13 ?_
    refine gf_X6_6 E (isOrder_of h0 g5) fl_X2_132 dX2_wasEaten_14 ?_
    refine gs_O (i := 3) E 3 (by decide) rfl (by decide) fl_X2_159 dX2_wasEaten_17 ?_
    obtain ⟨g7, h⟩ := h
    refine acmpO_ne (tgt := 27) E g7 (vpl _ _ (by decide)) dX2_wasEaten_20 (by decide) (fun q6 => ?_) (fun q6 => ?_)
    · replace h := h.1 q6
      refine ra_iconst E dX2_wasEaten_27 ki_0 ?_
      exact ra_zret E hr rfl dX2_wasEaten_28 ⟨Or.inl rfl, h⟩
    · replace h := h.2 q6
      refine ra_iconst E dX2_wasEaten_23 ki_1 ?_
      refine ra_goto (tgt := 28) E dX2_wasEaten_24 (by decide) ?_
      exact ra_zret E hr rfl dX2_wasEaten_28 ⟨Or.inr rfl, h⟩
def f_X2_isSailing (a0 : Nat) (p1 : Int32) (M : TM) (K : Int32 → TM → Prop) : Prop := f_X2_hasBarge a0 p1 M (fun r2 M1 => ((r2 = 0 → K (0 : Int32) M1) ∧ (¬ r2 = 0 → vp_in p1 5 ∧ f_X1_isUnderWay (a0 + 21 + 2 * p1.toNatClampNeg) M1 (fun r7 M6 => ((r7 = 0 → K (0 : Int32) M6) ∧ (¬ r7 = 0 → K (1 : Int32) M6))))))
set_option maxRecDepth 100000 in
set_option maxHeartbeats 4000000 in
theorem c_X2_isSailing {ad : Nat → Nat} (a0 : Nat) (h0 : IsCanal a0) (p1 : Int32) (M : TM) (K : Int32 → TM → Prop) (h : f_X2_isSailing a0 p1 M K) : MI yX2_isSailing cX2_isSailing 2 (some .boolean) 1 ad [.ref (ad a0), .int p1] M (fun r M' => (r = 0 ∨ r = 1) ∧ K r M') := by
  refine MI_of RX2 rfl (by decide +kernel) (Nat.le_of_ble_eq_true rfl) (fun p l e s m below meth c D tc E hr => ?_)
  unfold f_X2_isSailing at h
  refine ra_aload_n E dX2_isSailing_0 rfl 0 rfl ?_
  refine ra_iload_n E dX2_isSailing_1 rfl 1 rfl ?_
  refine ra_callIV (rest := []) E (c_X2_hasBarge _ h0 _ _ _ h) (lq_X2 _) cv_X2_hasBarge ml_X2_162 (by decide) (lm (h0.add (j := 0) (by decide))) (fun R => ⟨_, cel_canal tc ad h0 R⟩) rfl rfl rfl (Nat.le_of_ble_eq_true rfl) ⟨Nat.le_of_ble_eq_true rfl, Nat.le_of_ble_eq_true rfl⟩ ⟨Nat.zero_le _, Nat.zero_le _⟩ dX2_isSailing_2 (fun r2 M1 h => ?_)
  obtain ⟨b3, h⟩ := h
  refine ra_if_eq (tgt := 24) E dX2_isSailing_5 (by decide) (fun q4 => ?_) (fun q4 => ?_)
  · replace h := h.1 q4
    refine ra_iconst E dX2_isSailing_24 ki_0 ?_
    exact ra_zret E hr rfl dX2_isSailing_25 ⟨Or.inl rfl, h⟩
  · replace h := h.2 q4
    refine ra_aload_n E dX2_isSailing_8 rfl 0 rfl ?_
    refine gf_X2_5 E h0 fl_X2_33 dX2_isSailing_9 ?_
    refine ra_iload_n E dX2_isSailing_12 rfl 1 rfl ?_
    obtain ⟨g5, h⟩ := h
    refine ra_aald E (lm (h0.add (by decide))) (cel_bars tc ad h0) rfl g5 dX2_isSailing_13 ?_
    refine ra_callIV (rest := []) E (c_X1_isUnderWay _ (isBarge_of h0 g5) _ _ h) (lq_X1 _) cv_X1_isUnderWay ml_X2_165 (by decide) (lm (Nat.lt_of_succ_lt (isBarge_of h0 g5).lt)) (fun R => ⟨_, cel_barge tc ad (isBarge_of h0 g5) R⟩) rfl rfl rfl (Nat.le_of_ble_eq_true rfl) ⟨Nat.le_of_ble_eq_true rfl, Nat.le_of_ble_eq_true rfl⟩ ⟨Nat.zero_le _, Nat.zero_le _⟩ dX2_isSailing_14 (fun r7 M6 h => ?_)
    obtain ⟨b8, h⟩ := h
    refine ra_if_eq (tgt := 24) E dX2_isSailing_17 (by decide) (fun q9 => ?_) (fun q9 => ?_)
    · replace h := h.1 q9
      refine ra_iconst E dX2_isSailing_24 ki_0 ?_
      exact ra_zret E hr rfl dX2_isSailing_25 ⟨Or.inl rfl, h⟩
    · replace h := h.2 q9
      refine ra_iconst E dX2_isSailing_20 ki_1 ?_
      refine ra_goto (tgt := 25) E dX2_isSailing_21 (by decide) ?_
      exact ra_zret E hr rfl dX2_isSailing_25 ⟨Or.inr rfl, h⟩
def f_X2_fitsUnderBridges_L19 (a0 : Nat) (a1 : Nat) (p2 : Int32) (K : Int32 → TM → Prop) : Nat → Int32 → Int32 → TM → Prop
  | 0, _, _, _ => False
  | n + 1, x3, x4, M => ((x3 ≤ x4 → K (1 : Int32) M) ∧ (¬ x3 ≤ x4 → f_X2_hasSection a0 x4 M (fun r3 M2 => ((r3 = 0 → f_X2_fitsUnderBridges_L19 a0 a1 p2 K n x3 (x4 + 1) M2) ∧ (¬ r3 = 0 → vp_in x4 15 ∧ (((M2 (a0 + 6 + x4.toNatClampNeg) 1) ≤ 0 → f_X2_fitsUnderBridges_L19 a0 a1 p2 K n x3 (x4 + 1) M2) ∧ (¬ (M2 (a0 + 6 + x4.toNatClampNeg) 1) ≤ 0 → vp_in x4 15 ∧ (((M2 a1 2) ≤ (M2 (a0 + 6 + x4.toNatClampNeg) 1) → f_X2_fitsUnderBridges_L19 a0 a1 p2 K n x3 (x4 + 1) M2) ∧ (¬ (M2 a1 2) ≤ (M2 (a0 + 6 + x4.toNatClampNeg) 1) → K (0 : Int32) M2)))))))))
set_option maxRecDepth 100000 in
set_option maxHeartbeats 4000000 in
theorem l_X2_fitsUnderBridges_L19 {p : Program} {l : Launch} {e : Env} {s : State} {m : MethodId} {args : Array Value} {below : List Frame} {meth : Method} {c : Code} {D : va_G} {tc : Nat → ClassId} {ad : Nat → Nat} (a0 : Nat) (h0 : IsCanal a0) (a1 : Nat) (h1 : IsBarge a1) (p2 : Int32) {K : Int32 → TM → Prop} (E : Ev p s m args meth c D tc ad RX2 cX2_fitsUnderBridges 5) (hr : meth.sig.returnType = (some .boolean)) : ∀ (n : Nat) (x3 : Int32) (x4 : Int32) (M : TM) , f_X2_fitsUnderBridges_L19 a0 a1 p2 K n x3 x4 M → Wa p l e (rmD 1) s m args below meth c 0 0 (MQ below (va_Qi (fun r M' => (r = 0 ∨ r = 1) ∧ K r M') (EndW D tc ad) (A0 ad s.heap.size)) args s 0 0 (A0 ad s.heap.size)) D tc ad 5 M 19 [(0, .ref (ad a0)), (1, .ref (ad a1)), (3, .int x3), (4, .int x4)] [] := by
  intro n
  induction n with
  | zero => intro x3 x4 M  h; exact h.elim
  | succ n ih =>
    intro x3 x4 M  h
    unfold f_X2_fitsUnderBridges_L19 at h
    refine ra_iload E dX2_fitsUnderBridges_19 3 rfl ?_
    refine ra_iload_n E dX2_fitsUnderBridges_21 rfl 2 rfl ?_
    refine ra_icmp_ge (tgt := 72) E dX2_fitsUnderBridges_22 (by decide) (fun q1 => ?_) (fun q1 => ?_)
    · replace h := h.1 q1
      refine ra_iconst E dX2_fitsUnderBridges_72 ki_1 ?_
      exact ra_zret E hr rfl dX2_fitsUnderBridges_73 ⟨Or.inr rfl, h⟩
    · replace h := h.2 q1
      refine ra_aload_n E dX2_fitsUnderBridges_25 rfl 0 rfl ?_
      refine ra_iload E dX2_fitsUnderBridges_26 3 rfl ?_
      refine ra_callIV (rest := []) E (c_X2_hasSection _ h0 _ _ _ h) (lq_X2 _) cv_X2_hasSection ml_X2_182 (by decide) (lm (h0.add (j := 0) (by decide))) (fun R => ⟨_, cel_canal tc ad h0 R⟩) rfl rfl rfl (Nat.le_of_ble_eq_true rfl) ⟨Nat.le_of_ble_eq_true rfl, Nat.le_of_ble_eq_true rfl⟩ ⟨Nat.zero_le _, Nat.zero_le _⟩ dX2_fitsUnderBridges_28 (fun r3 M2 h => ?_)
      obtain ⟨b4, h⟩ := h
      refine ra_if_eq (tgt := 66) E dX2_fitsUnderBridges_31 (by decide) (fun q5 => ?_) (fun q5 => ?_)
      · replace h := h.1 q5
        refine ra_iinc1 (L' := [(4, _), (0, _), (1, _), (3, _)]) E dX2_fitsUnderBridges_66 3 rfl (by decide) rfl ?_
        refine ra_goto (tgt := 19) E dX2_fitsUnderBridges_69 (by decide) ?_
        exact ra_sub (L' := [(0, _), (1, _), (3, _), (4, _)]) [1, 2, 3, 0] rfl (ih _ _ _ h)
      · replace h := h.2 q5
        refine ra_aload_n E dX2_fitsUnderBridges_34 rfl 0 rfl ?_
        refine gf_X2_1 E h0 fl_X2_17 dX2_fitsUnderBridges_35 ?_
        refine ra_iload E dX2_fitsUnderBridges_38 3 rfl ?_
        obtain ⟨g6, h⟩ := h
        refine ra_aald E (lm (h0.add (by decide))) (cel_secs tc ad h0) rfl g6 dX2_fitsUnderBridges_40 ?_
        refine gf_X9_1 E (isSec_of h0 g6) fl_X2_185 dX2_fitsUnderBridges_41 ?_
        refine ra_if_le (tgt := 66) E dX2_fitsUnderBridges_44 (by decide) (fun q7 => ?_) (fun q7 => ?_)
        · replace h := h.1 q7
          refine ra_iinc1 (L' := [(4, _), (0, _), (1, _), (3, _)]) E dX2_fitsUnderBridges_66 3 rfl (by decide) rfl ?_
          refine ra_goto (tgt := 19) E dX2_fitsUnderBridges_69 (by decide) ?_
          exact ra_sub (L' := [(0, _), (1, _), (3, _), (4, _)]) [1, 2, 3, 0] rfl (ih _ _ _ h)
        · replace h := h.2 q7
          refine ra_aload_n E dX2_fitsUnderBridges_47 rfl 0 rfl ?_
          refine gf_X2_1 E h0 fl_X2_17 dX2_fitsUnderBridges_48 ?_
          refine ra_iload E dX2_fitsUnderBridges_51 3 rfl ?_
          obtain ⟨g8, h⟩ := h
          refine ra_aald E (lm (h0.add (by decide))) (cel_secs tc ad h0) rfl g8 dX2_fitsUnderBridges_53 ?_
          refine gf_X9_1 E (isSec_of h0 g8) fl_X2_185 dX2_fitsUnderBridges_54 ?_
          refine ra_aload_n E dX2_fitsUnderBridges_57 rfl 1 rfl ?_
          refine gf_X1_2 E h1 fl_X2_188 dX2_fitsUnderBridges_58 ?_
          refine ra_icmp_ge (tgt := 66) E dX2_fitsUnderBridges_61 (by decide) (fun q9 => ?_) (fun q9 => ?_)
          · replace h := h.1 q9
            refine ra_iinc1 (L' := [(4, _), (0, _), (1, _), (3, _)]) E dX2_fitsUnderBridges_66 3 rfl (by decide) rfl ?_
            refine ra_goto (tgt := 19) E dX2_fitsUnderBridges_69 (by decide) ?_
            exact ra_sub (L' := [(0, _), (1, _), (3, _), (4, _)]) [1, 2, 3, 0] rfl (ih _ _ _ h)
          · replace h := h.2 q9
            refine ra_iconst E dX2_fitsUnderBridges_64 ki_0 ?_
            exact ra_zret E hr rfl dX2_fitsUnderBridges_65 ⟨Or.inl rfl, h⟩
def f_X2_fitsUnderBridges (a0 : Nat) (a1 : Nat) (p2 : Int32) (M : TM) (K : Int32 → TM → Prop) : Prop := ∃ n19, f_X2_fitsUnderBridges_L19 a0 a1 p2 K n19 (if (M a1 0) < p2 then p2 else (M a1 0)) (if p2 < (M a1 0) then p2 else (M a1 0)) M
set_option maxRecDepth 100000 in
set_option maxHeartbeats 4000000 in
theorem c_X2_fitsUnderBridges {ad : Nat → Nat} (a0 : Nat) (h0 : IsCanal a0) (a1 : Nat) (h1 : IsBarge a1) (p2 : Int32) (M : TM) (K : Int32 → TM → Prop) (h : f_X2_fitsUnderBridges a0 a1 p2 M K) : MI yX2_fitsUnderBridges cX2_fitsUnderBridges 5 (some .boolean) 1 ad [.ref (ad a0), .ref (ad a1), .int p2] M (fun r M' => (r = 0 ∨ r = 1) ∧ K r M') := by
  refine MI_of RX2 rfl (by decide +kernel) (Nat.le_of_ble_eq_true rfl) (fun p l e s m below meth c D tc E hr => ?_)
  unfold f_X2_fitsUnderBridges at h
  refine ra_aload_n E dX2_fitsUnderBridges_0 rfl 1 rfl ?_
  refine gf_X1_0 E h1 fl_X2_98 dX2_fitsUnderBridges_1 ?_
  refine ra_iload_n E dX2_fitsUnderBridges_4 rfl 2 rfl ?_
  refine ra_mmax E ml_X2_175 ⟨Nat.le_of_ble_eq_true rfl, Nat.le_of_ble_eq_true rfl⟩ ⟨Nat.zero_le _, Nat.zero_le _⟩ dX2_fitsUnderBridges_5 ?_
  refine ra_istore_n (L' := [(3, _), (0, _), (1, _), (2, _)]) E dX2_fitsUnderBridges_8 rfl (by decide) rfl ?_
  refine ra_aload_n E dX2_fitsUnderBridges_9 rfl 2 rfl ?_
  refine gf_X1_0 E h1 fl_X2_98 dX2_fitsUnderBridges_10 ?_
  refine ra_iload_n E dX2_fitsUnderBridges_13 rfl 3 rfl ?_
  refine ra_mmin E ml_X2_179 ⟨Nat.le_of_ble_eq_true rfl, Nat.le_of_ble_eq_true rfl⟩ ⟨Nat.zero_le _, Nat.zero_le _⟩ dX2_fitsUnderBridges_14 ?_
  refine ra_istore (L' := [(4, _), (3, _), (0, _), (1, _), (2, _)]) E dX2_fitsUnderBridges_17 (by decide) rfl ?_
  obtain ⟨n10, h⟩ := h
  exact ra_sub (L' := [(0, _), (1, _), (3, _), (4, _)]) [2, 3, 1, 0] rfl (l_X2_fitsUnderBridges_L19 a0 h0 a1 h1 p2 E hr n10 _ _ _ h)
def f_X2_timeBetween_L16 (a0 : Nat) (p1 : Int32) (p2 : Int32) (K : Int32 → TM → Prop) : Nat → Int32 → Int32 → Int32 → TM → Prop
  | 0, _, _, _, _ => False
  | n + 1, x3, x4, x5, M => ((x4 ≤ x5 → K x3 M) ∧ (¬ x4 ≤ x5 → f_X2_hasSection a0 x5 M (fun r3 M2 => ((r3 = 0 → f_X2_timeBetween_L16 a0 p1 p2 K n x3 x4 (x5 + 1) M2) ∧ (¬ r3 = 0 → vp_in x5 15 ∧ f_X2_timeBetween_L16 a0 p1 p2 K n (x3 + ((1 : Int32) + (M2 (a0 + 6 + x5.toNatClampNeg) 0))) x4 (x5 + 1) M2)))))
set_option maxRecDepth 100000 in
set_option maxHeartbeats 4000000 in
theorem l_X2_timeBetween_L16 {p : Program} {l : Launch} {e : Env} {s : State} {m : MethodId} {args : Array Value} {below : List Frame} {meth : Method} {c : Code} {D : va_G} {tc : Nat → ClassId} {ad : Nat → Nat} (a0 : Nat) (h0 : IsCanal a0) (p1 : Int32) (p2 : Int32) {K : Int32 → TM → Prop} (E : Ev p s m args meth c D tc ad RX2 cX2_timeBetween 6) (hr : meth.sig.returnType = (some .int)) : ∀ (n : Nat) (x3 : Int32) (x4 : Int32) (x5 : Int32) (M : TM) , f_X2_timeBetween_L16 a0 p1 p2 K n x3 x4 x5 M → Wa p l e (rmD 1) s m args below meth c 0 0 (MQ below (va_Qi K (EndW D tc ad) (A0 ad s.heap.size)) args s 0 0 (A0 ad s.heap.size)) D tc ad 6 M 16 [(0, .ref (ad a0)), (3, .int x3), (4, .int x4), (5, .int x5)] [] := by
  intro n
  induction n with
  | zero => intro x3 x4 x5 M  h; exact h.elim
  | succ n ih =>
    intro x3 x4 x5 M  h
    unfold f_X2_timeBetween_L16 at h
    refine ra_iload E dX2_timeBetween_16 3 rfl ?_
    refine ra_iload E dX2_timeBetween_18 2 rfl ?_
    refine ra_icmp_ge (tgt := 53) E dX2_timeBetween_20 (by decide) (fun q1 => ?_) (fun q1 => ?_)
    · replace h := h.1 q1
      refine ra_iload_n E dX2_timeBetween_53 rfl 1 rfl ?_
      exact ra_iret E hr dX2_timeBetween_54 h
    · replace h := h.2 q1
      refine ra_aload_n E dX2_timeBetween_23 rfl 0 rfl ?_
      refine ra_iload E dX2_timeBetween_24 3 rfl ?_
      refine ra_callIV (rest := []) E (c_X2_hasSection _ h0 _ _ _ h) (lq_X2 _) cv_X2_hasSection ml_X2_182 (by decide) (lm (h0.add (j := 0) (by decide))) (fun R => ⟨_, cel_canal tc ad h0 R⟩) rfl rfl rfl (Nat.le_of_ble_eq_true rfl) ⟨Nat.le_of_ble_eq_true rfl, Nat.le_of_ble_eq_true rfl⟩ ⟨Nat.zero_le _, Nat.zero_le _⟩ dX2_timeBetween_26 (fun r3 M2 h => ?_)
      obtain ⟨b4, h⟩ := h
      refine ra_if_eq (tgt := 47) E dX2_timeBetween_29 (by decide) (fun q5 => ?_) (fun q5 => ?_)
      · replace h := h.1 q5
        refine ra_iinc1 (L' := [(5, _), (0, _), (3, _), (4, _)]) E dX2_timeBetween_47 3 rfl (by decide) rfl ?_
        refine ra_goto (tgt := 16) E dX2_timeBetween_50 (by decide) ?_
        exact ra_sub (L' := [(0, _), (3, _), (4, _), (5, _)]) [1, 2, 3, 0] rfl (ih _ _ _ _ h)
      · replace h := h.2 q5
        refine ra_iload_n E dX2_timeBetween_32 rfl 1 rfl ?_
        refine ra_iconst E dX2_timeBetween_33 ki_1 ?_
        refine ra_aload_n E dX2_timeBetween_34 rfl 0 rfl ?_
        refine gf_X2_1 E h0 fl_X2_17 dX2_timeBetween_35 ?_
        refine ra_iload E dX2_timeBetween_38 3 rfl ?_
        obtain ⟨g6, h⟩ := h
        refine ra_aald E (lm (h0.add (by decide))) (cel_secs tc ad h0) rfl g6 dX2_timeBetween_40 ?_
        refine gf_X9_0 E (isSec_of h0 g6) fl_X2_191 dX2_timeBetween_41 ?_
        refine ra_iadd E dX2_timeBetween_44 ?_
        refine ra_iadd E dX2_timeBetween_45 ?_
        refine ra_istore_n (L' := [(3, _), (0, _), (4, _), (5, _)]) E dX2_timeBetween_46 rfl (by decide) rfl ?_
        refine ra_iinc1 (L' := [(5, _), (3, _), (0, _), (4, _)]) E dX2_timeBetween_47 3 rfl (by decide) rfl ?_
        refine ra_goto (tgt := 16) E dX2_timeBetween_50 (by decide) ?_
        exact ra_sub (L' := [(0, _), (3, _), (4, _), (5, _)]) [2, 1, 3, 0] rfl (ih _ _ _ _ h)
def f_X2_timeBetween (a0 : Nat) (p1 : Int32) (p2 : Int32) (M : TM) (K : Int32 → TM → Prop) : Prop := ∃ n16, f_X2_timeBetween_L16 a0 p1 p2 K n16 (0 : Int32) (if p1 < p2 then p2 else p1) (if p2 < p1 then p2 else p1) M
set_option maxRecDepth 100000 in
set_option maxHeartbeats 4000000 in
theorem c_X2_timeBetween {ad : Nat → Nat} (a0 : Nat) (h0 : IsCanal a0) (p1 : Int32) (p2 : Int32) (M : TM) (K : Int32 → TM → Prop) (h : f_X2_timeBetween a0 p1 p2 M K) : MI yX2_timeBetween cX2_timeBetween 6 (some .int) 1 ad [.ref (ad a0), .int p1, .int p2] M K := by
  refine MI_of RX2 rfl (by decide +kernel) (Nat.le_of_ble_eq_true rfl) (fun p l e s m below meth c D tc E hr => ?_)
  unfold f_X2_timeBetween at h
  refine ra_iconst E dX2_timeBetween_0 ki_0 ?_
  refine ra_istore_n (L' := [(3, _), (0, _), (1, _), (2, _)]) E dX2_timeBetween_1 rfl (by decide) rfl ?_
  refine ra_iload_n E dX2_timeBetween_2 rfl 2 rfl ?_
  refine ra_iload_n E dX2_timeBetween_3 rfl 3 rfl ?_
  refine ra_mmax E ml_X2_175 ⟨Nat.le_of_ble_eq_true rfl, Nat.le_of_ble_eq_true rfl⟩ ⟨Nat.zero_le _, Nat.zero_le _⟩ dX2_timeBetween_4 ?_
  refine ra_istore (L' := [(4, _), (3, _), (0, _), (1, _), (2, _)]) E dX2_timeBetween_7 (by decide) rfl ?_
  refine ra_iload_n E dX2_timeBetween_9 rfl 3 rfl ?_
  refine ra_iload_n E dX2_timeBetween_10 rfl 4 rfl ?_
  refine ra_mmin E ml_X2_179 ⟨Nat.le_of_ble_eq_true rfl, Nat.le_of_ble_eq_true rfl⟩ ⟨Nat.zero_le _, Nat.zero_le _⟩ dX2_timeBetween_11 ?_
  refine ra_istore (L' := [(5, _), (4, _), (3, _), (0, _), (1, _), (2, _)]) E dX2_timeBetween_14 (by decide) rfl ?_
  obtain ⟨n7, h⟩ := h
  exact ra_sub (L' := [(0, _), (3, _), (4, _), (5, _)]) [3, 2, 1, 0] rfl (l_X2_timeBetween_L16 a0 h0 p1 p2 E hr n7 _ _ _ _ h)
def f_X2_bargeNearestTo_L7 (a0 : Nat) (p1 : Int32) (K : Int32 → TM → Prop) : Nat → Int32 → Int32 → Int32 → Int32 → TM → Prop
  | 0, _, _, _, _, _ => False
  | n + 1, x1, x2, x3, x4, M => (((M a0 4) ≤ x4 → K x2 M) ∧ (¬ (M a0 4) ≤ x4 → vp_in x4 5 ∧ f_X2_timeBetween a0 (M (a0 + 21 + 2 * x4.toNatClampNeg) 0) x1 M (fun r4 M3 => ((x2 = (-1 : Int32) → f_X2_bargeNearestTo_L7 a0 p1 K n x1 x4 r4 (x4 + 1) M3) ∧ (¬ x2 = (-1 : Int32) → ((x3 ≤ r4 → f_X2_bargeNearestTo_L7 a0 p1 K n x1 x2 x3 (x4 + 1) M3) ∧ (¬ x3 ≤ r4 → f_X2_bargeNearestTo_L7 a0 p1 K n x1 x4 r4 (x4 + 1) M3)))))))
set_option maxRecDepth 100000 in
set_option maxHeartbeats 4000000 in
theorem l_X2_bargeNearestTo_L7 {p : Program} {l : Launch} {e : Env} {s : State} {m : MethodId} {args : Array Value} {below : List Frame} {meth : Method} {c : Code} {D : va_G} {tc : Nat → ClassId} {ad : Nat → Nat} (a0 : Nat) (h0 : IsCanal a0) (p1 : Int32) {K : Int32 → TM → Prop} (E : Ev p s m args meth c D tc ad RX2 cX2_bargeNearestTo 6) (hr : meth.sig.returnType = (some .int)) : ∀ (n : Nat) (x1 : Int32) (x2 : Int32) (x3 : Int32) (x4 : Int32) (M : TM) , f_X2_bargeNearestTo_L7 a0 p1 K n x1 x2 x3 x4 M → Wa p l e (rmD 2) s m args below meth c 0 0 (MQ below (va_Qi K (EndW D tc ad) (A0 ad s.heap.size)) args s 0 0 (A0 ad s.heap.size)) D tc ad 6 M 7 [(0, .ref (ad a0)), (1, .int x1), (2, .int x2), (3, .int x3), (4, .int x4)] [] := by
  intro n
  induction n with
  | zero => intro x1 x2 x3 x4 M  h; exact h.elim
  | succ n ih =>
    intro x1 x2 x3 x4 M  h
    unfold f_X2_bargeNearestTo_L7 at h
    refine ra_iload E dX2_bargeNearestTo_7 4 rfl ?_
    refine ra_aload_n E dX2_bargeNearestTo_9 rfl 0 rfl ?_
    refine gf_X2_4 E h0 fl_X2_28 dX2_bargeNearestTo_10 ?_
    refine ra_icmp_ge (tgt := 56) E dX2_bargeNearestTo_13 (by decide) (fun q1 => ?_) (fun q1 => ?_)
    · replace h := h.1 q1
      refine ra_iload_n E dX2_bargeNearestTo_56 rfl 2 rfl ?_
      exact ra_iret E hr dX2_bargeNearestTo_57 h
    · replace h := h.2 q1
      refine ra_aload_n E dX2_bargeNearestTo_16 rfl 0 rfl ?_
      refine ra_aload_n E dX2_bargeNearestTo_17 rfl 0 rfl ?_
      refine gf_X2_5 E h0 fl_X2_33 dX2_bargeNearestTo_18 ?_
      refine ra_iload E dX2_bargeNearestTo_21 4 rfl ?_
      obtain ⟨g2, h⟩ := h
      refine ra_aald E (lm (h0.add (by decide))) (cel_bars tc ad h0) rfl g2 dX2_bargeNearestTo_23 ?_
      refine gf_X1_0 E (isBarge_of h0 g2) fl_X2_98 dX2_bargeNearestTo_24 ?_
      refine ra_iload_n E dX2_bargeNearestTo_27 rfl 1 rfl ?_
      refine ra_callIV (rest := []) E (c_X2_timeBetween _ h0 _ _ _ _ h) (lq_X2 _) cv_X2_timeBetween ml_X2_194 (by decide) (lm (h0.add (j := 0) (by decide))) (fun R => ⟨_, cel_canal tc ad h0 R⟩) rfl rfl rfl (Nat.le_of_ble_eq_true rfl) ⟨Nat.le_of_ble_eq_true rfl, Nat.le_of_ble_eq_true rfl⟩ ⟨Nat.zero_le _, Nat.zero_le _⟩ dX2_bargeNearestTo_28 (fun r4 M3 h => ?_)
      refine ra_istore (L' := [(5, _), (0, _), (1, _), (2, _), (3, _), (4, _)]) E dX2_bargeNearestTo_31 (by decide) rfl ?_
      refine ra_iload_n E dX2_bargeNearestTo_33 rfl 3 rfl ?_
      refine ra_iconst E dX2_bargeNearestTo_34 ki_m1 ?_
      refine ra_icmp_eq (tgt := 44) E dX2_bargeNearestTo_35 (by decide) (fun q5 => ?_) (fun q5 => ?_)
      · replace h := h.1 q5
        refine ra_iload E dX2_bargeNearestTo_44 5 rfl ?_
        refine ra_istore_n (L' := [(2, _), (5, _), (0, _), (1, _), (3, _), (4, _)]) E dX2_bargeNearestTo_46 rfl (by decide) rfl ?_
        refine ra_iload E dX2_bargeNearestTo_47 1 rfl ?_
        refine ra_istore_n (L' := [(3, _), (2, _), (5, _), (0, _), (1, _), (4, _)]) E dX2_bargeNearestTo_49 rfl (by decide) rfl ?_
        refine ra_iinc1 (L' := [(4, _), (3, _), (2, _), (5, _), (0, _), (1, _)]) E dX2_bargeNearestTo_50 5 rfl (by decide) rfl ?_
        refine ra_goto (tgt := 7) E dX2_bargeNearestTo_53 (by decide) ?_
        exact ra_sub (L' := [(0, _), (1, _), (2, _), (3, _), (4, _)]) [4, 5, 2, 1, 0] rfl (ih _ _ _ _ _ h)
      · replace h := h.2 q5
        refine ra_iload E dX2_bargeNearestTo_38 0 rfl ?_
        refine ra_iload_n E dX2_bargeNearestTo_40 rfl 4 rfl ?_
        refine ra_icmp_ge (tgt := 50) E dX2_bargeNearestTo_41 (by decide) (fun q6 => ?_) (fun q6 => ?_)
        · replace h := h.1 q6
          refine ra_iinc1 (L' := [(4, _), (5, _), (0, _), (1, _), (2, _), (3, _)]) E dX2_bargeNearestTo_50 5 rfl (by decide) rfl ?_
          refine ra_goto (tgt := 7) E dX2_bargeNearestTo_53 (by decide) ?_
          exact ra_sub (L' := [(0, _), (1, _), (2, _), (3, _), (4, _)]) [2, 3, 4, 5, 0] rfl (ih _ _ _ _ _ h)
        · replace h := h.2 q6
          refine ra_iload E dX2_bargeNearestTo_44 5 rfl ?_
          refine ra_istore_n (L' := [(2, _), (5, _), (0, _), (1, _), (3, _), (4, _)]) E dX2_bargeNearestTo_46 rfl (by decide) rfl ?_
          refine ra_iload E dX2_bargeNearestTo_47 1 rfl ?_
          refine ra_istore_n (L' := [(3, _), (2, _), (5, _), (0, _), (1, _), (4, _)]) E dX2_bargeNearestTo_49 rfl (by decide) rfl ?_
          refine ra_iinc1 (L' := [(4, _), (3, _), (2, _), (5, _), (0, _), (1, _)]) E dX2_bargeNearestTo_50 5 rfl (by decide) rfl ?_
          refine ra_goto (tgt := 7) E dX2_bargeNearestTo_53 (by decide) ?_
          exact ra_sub (L' := [(0, _), (1, _), (2, _), (3, _), (4, _)]) [4, 5, 2, 1, 0] rfl (ih _ _ _ _ _ h)
def f_X2_bargeNearestTo (a0 : Nat) (p1 : Int32) (M : TM) (K : Int32 → TM → Prop) : Prop := ∃ n7, f_X2_bargeNearestTo_L7 a0 p1 K n7 p1 (-1 : Int32) (0 : Int32) (0 : Int32) M
set_option maxRecDepth 100000 in
set_option maxHeartbeats 4000000 in
theorem c_X2_bargeNearestTo {ad : Nat → Nat} (a0 : Nat) (h0 : IsCanal a0) (p1 : Int32) (M : TM) (K : Int32 → TM → Prop) (h : f_X2_bargeNearestTo a0 p1 M K) : MI yX2_bargeNearestTo cX2_bargeNearestTo 6 (some .int) 2 ad [.ref (ad a0), .int p1] M K := by
  refine MI_of RX2 rfl (by decide +kernel) (Nat.le_of_ble_eq_true rfl) (fun p l e s m below meth c D tc E hr => ?_)
  unfold f_X2_bargeNearestTo at h
  refine ra_iconst E dX2_bargeNearestTo_0 ki_m1 ?_
  refine ra_istore_n (L' := [(2, _), (0, _), (1, _)]) E dX2_bargeNearestTo_1 rfl (by decide) rfl ?_
  refine ra_iconst E dX2_bargeNearestTo_2 ki_0 ?_
  refine ra_istore_n (L' := [(3, _), (2, _), (0, _), (1, _)]) E dX2_bargeNearestTo_3 rfl (by decide) rfl ?_
  refine ra_iconst E dX2_bargeNearestTo_4 ki_0 ?_
  refine ra_istore (L' := [(4, _), (3, _), (2, _), (0, _), (1, _)]) E dX2_bargeNearestTo_5 (by decide) rfl ?_
  obtain ⟨n7, h⟩ := h
  exact ra_sub (L' := [(0, _), (1, _), (2, _), (3, _), (4, _)]) [3, 4, 2, 1, 0] rfl (l_X2_bargeNearestTo_L7 a0 h0 p1 E hr n7 _ _ _ _ _ h)
def f_X2_setTarget (a0 : Nat) (p1 : Int32) (p2 : Int32) (M : TM) (K : TM → Prop) : Prop := f_X2_hasBarge a0 p1 M (fun r2 M1 => ((r2 = 0 → K M1) ∧ (¬ r2 = 0 → vp_in p1 5 ∧ ∀ M6, M6 = u2 M1 (a0 + 21 + 2 * p1.toNatClampNeg) 1 p2 → K M6)))
set_option maxRecDepth 100000 in
set_option maxHeartbeats 4000000 in
theorem c_X2_setTarget {ad : Nat → Nat} (a0 : Nat) (h0 : IsCanal a0) (p1 : Int32) (p2 : Int32) (M : TM) (K : TM → Prop) (h : f_X2_setTarget a0 p1 p2 M K) : MV yX2_setTarget cX2_setTarget 3 1 ad [.ref (ad a0), .int p1, .int p2] M K := by
  refine MV_of RX2 rfl (by decide +kernel) (Nat.le_of_ble_eq_true rfl) (fun p l e s m below meth c D tc E hr => ?_)
  unfold f_X2_setTarget at h
  refine ra_aload_n E dX2_setTarget_0 rfl 0 rfl ?_
  refine ra_iload_n E dX2_setTarget_1 rfl 1 rfl ?_
  refine ra_callIV (rest := []) E (c_X2_hasBarge _ h0 _ _ _ h) (lq_X2 _) cv_X2_hasBarge ml_X2_162 (by decide) (lm (h0.add (j := 0) (by decide))) (fun R => ⟨_, cel_canal tc ad h0 R⟩) rfl rfl rfl (Nat.le_of_ble_eq_true rfl) ⟨Nat.le_of_ble_eq_true rfl, Nat.le_of_ble_eq_true rfl⟩ ⟨Nat.zero_le _, Nat.zero_le _⟩ dX2_setTarget_2 (fun r2 M1 h => ?_)
  obtain ⟨b3, h⟩ := h
  refine ra_if_eq (tgt := 18) E dX2_setTarget_5 (by decide) (fun q4 => ?_) (fun q4 => ?_)
  · replace h := h.1 q4
    exact ra_vret E hr dX2_setTarget_18 h
  · replace h := h.2 q4
    refine ra_aload_n E dX2_setTarget_8 rfl 0 rfl ?_
    refine gf_X2_5 E h0 fl_X2_33 dX2_setTarget_9 ?_
    refine ra_iload_n E dX2_setTarget_12 rfl 1 rfl ?_
    obtain ⟨g5, h⟩ := h
    refine ra_aald E (lm (h0.add (by decide))) (cel_bars tc ad h0) rfl g5 dX2_setTarget_13 ?_
    refine ra_iload_n E dX2_setTarget_14 rfl 2 rfl ?_
    refine pf_X1_1 E (isBarge_of h0 g5) fl_X2_168 dX2_setTarget_15 ?_
    replace h := h _ rfl
    exact ra_vret E hr dX2_setTarget_18 h
def f_X2_give (a0 : Nat) (p1 : Int32) (p2 : Int32) (M : TM) (K : TM → Prop) : Prop := f_X2_hasBarge a0 p1 M (fun r2 M1 => ((r2 = 0 → K M1) ∧ (¬ r2 = 0 → f_X2_hasOrder a0 p2 M1 (fun r6 M5 => ((r6 = 0 → K M5) ∧ (¬ r6 = 0 → vp_in p2 30 ∧ ∀ M10, M10 = u2 M5 (a0 + 31 + p2.toNatClampNeg) 6 (1 : Int32) → vp_in p2 30 ∧ ∀ M12, M12 = u2 M10 (a0 + 31 + p2.toNatClampNeg) 7 p1 → vp_in p1 5 ∧ f_X1_enqueue (a0 + 21 + 2 * p1.toNatClampNeg) p2 M12 (fun M14 => K M14)))))))
set_option maxRecDepth 100000 in
set_option maxHeartbeats 4000000 in
theorem c_X2_give {ad : Nat → Nat} (a0 : Nat) (h0 : IsCanal a0) (p1 : Int32) (p2 : Int32) (M : TM) (K : TM → Prop) (h : f_X2_give a0 p1 p2 M K) : MV yX2_give cX2_give 3 1 ad [.ref (ad a0), .int p1, .int p2] M K := by
  refine MV_of RX2 rfl (by decide +kernel) (Nat.le_of_ble_eq_true rfl) (fun p l e s m below meth c D tc E hr => ?_)
  unfold f_X2_give at h
  refine ra_aload_n E dX2_give_0 rfl 0 rfl ?_
  refine ra_iload_n E dX2_give_1 rfl 1 rfl ?_
  refine ra_callIV (rest := []) E (c_X2_hasBarge _ h0 _ _ _ h) (lq_X2 _) cv_X2_hasBarge ml_X2_162 (by decide) (lm (h0.add (j := 0) (by decide))) (fun R => ⟨_, cel_canal tc ad h0 R⟩) rfl rfl rfl (Nat.le_of_ble_eq_true rfl) ⟨Nat.le_of_ble_eq_true rfl, Nat.le_of_ble_eq_true rfl⟩ ⟨Nat.zero_le _, Nat.zero_le _⟩ dX2_give_2 (fun r2 M1 h => ?_)
  obtain ⟨b3, h⟩ := h
  refine ra_if_eq (tgt := 48) E dX2_give_5 (by decide) (fun q4 => ?_) (fun q4 => ?_)
  · replace h := h.1 q4
    exact ra_vret E hr dX2_give_48 h
  · replace h := h.2 q4
    refine ra_aload_n E dX2_give_8 rfl 0 rfl ?_
    refine ra_iload_n E dX2_give_9 rfl 2 rfl ?_
    refine ra_callIV (rest := []) E (c_X2_hasOrder _ h0 _ _ _ h) (lq_X2 _) cv_X2_hasOrder ml_X2_122 (by decide) (lm (h0.add (j := 0) (by decide))) (fun R => ⟨_, cel_canal tc ad h0 R⟩) rfl rfl rfl (Nat.le_of_ble_eq_true rfl) ⟨Nat.le_of_ble_eq_true rfl, Nat.le_of_ble_eq_true rfl⟩ ⟨Nat.zero_le _, Nat.zero_le _⟩ dX2_give_10 (fun r6 M5 h => ?_)
    obtain ⟨b7, h⟩ := h
    refine ra_if_eq (tgt := 48) E dX2_give_13 (by decide) (fun q8 => ?_) (fun q8 => ?_)
    · replace h := h.1 q8
      exact ra_vret E hr dX2_give_48 h
    · replace h := h.2 q8
      refine ra_aload_n E dX2_give_16 rfl 0 rfl ?_
      refine gf_X2_7 E h0 fl_X2_42 dX2_give_17 ?_
      refine ra_iload_n E dX2_give_20 rfl 2 rfl ?_
      obtain ⟨g9, h⟩ := h
      refine ra_aald E (lm (h0.add (by decide))) (cel_ords tc ad h0) rfl g9 dX2_give_21 ?_
      refine gs_O (i := 1) E 1 (by decide) rfl (by decide) fl_X2_203 dX2_give_22 ?_
      refine pf_X6_6 E (isOrder_of h0 g9) _ rfl fl_X2_132 dX2_give_25 ?_
      replace h := h _ rfl
      refine ra_aload_n E dX2_give_28 rfl 0 rfl ?_
      refine gf_X2_7 E h0 fl_X2_42 dX2_give_29 ?_
      refine ra_iload_n E dX2_give_32 rfl 2 rfl ?_
      obtain ⟨g11, h⟩ := h
      refine ra_aald E (lm (h0.add (by decide))) (cel_ords tc ad h0) rfl g11 dX2_give_33 ?_
      refine ra_iload_n E dX2_give_34 rfl 1 rfl ?_
      refine pf_X6_7 E (isOrder_of h0 g11) fl_X2_109 dX2_give_35 ?_
      replace h := h _ rfl
      refine ra_aload_n E dX2_give_38 rfl 0 rfl ?_
      refine gf_X2_5 E h0 fl_X2_33 dX2_give_39 ?_
      refine ra_iload_n E dX2_give_42 rfl 1 rfl ?_
      obtain ⟨g13, h⟩ := h
      refine ra_aald E (lm (h0.add (by decide))) (cel_bars tc ad h0) rfl g13 dX2_give_43 ?_
      refine ra_iload_n E dX2_give_44 rfl 2 rfl ?_
      refine ra_callVV (rest := []) E (c_X1_enqueue _ (isBarge_of h0 g13) _ _ _ h) (lq_X1 _) cv_X1_enqueue ml_X2_206 (by decide) (lm (Nat.lt_of_succ_lt (isBarge_of h0 g13).lt)) (fun R => ⟨_, cel_barge tc ad (isBarge_of h0 g13) R⟩) rfl rfl rfl (Nat.le_of_ble_eq_true rfl) ⟨Nat.le_of_ble_eq_true rfl, Nat.le_of_ble_eq_true rfl⟩ ⟨Nat.zero_le _, Nat.zero_le _⟩ dX2_give_45 (fun M14 h => ?_)
      exact ra_vret E hr dX2_give_48 h
def f_X2_removeFromQueue (a0 : Nat) (p1 : Int32) (M : TM) (K : TM → Prop) : Prop := vp_in p1 30 ∧ f_X2_hasBarge a0 (M (a0 + 31 + p1.toNatClampNeg) 7) M (fun r3 M2 => ((r3 = 0 → K M2) ∧ (¬ r3 = 0 → vp_in (M (a0 + 31 + p1.toNatClampNeg) 7) 5 ∧ f_X1_unqueue (a0 + 21 + 2 * (M (a0 + 31 + p1.toNatClampNeg) 7).toNatClampNeg) p1 M2 (fun M7 => K M7))))
set_option maxRecDepth 100000 in
set_option maxHeartbeats 4000000 in
theorem c_X2_removeFromQueue {ad : Nat → Nat} (a0 : Nat) (h0 : IsCanal a0) (p1 : Int32) (M : TM) (K : TM → Prop) (h : f_X2_removeFromQueue a0 p1 M K) : MV yX2_removeFromQueue cX2_removeFromQueue 3 1 ad [.ref (ad a0), .int p1] M K := by
  refine MV_of RX2 rfl (by decide +kernel) (Nat.le_of_ble_eq_true rfl) (fun p l e s m below meth c D tc E hr => ?_)
  unfold f_X2_removeFromQueue at h
  refine ra_aload_n E dX2_removeFromQueue_0 rfl 0 rfl ?_
  refine gf_X2_7 E h0 fl_X2_42 dX2_removeFromQueue_1 ?_
  refine ra_iload_n E dX2_removeFromQueue_4 rfl 1 rfl ?_
  obtain ⟨g1, h⟩ := h
  refine ra_aald E (lm (h0.add (by decide))) (cel_ords tc ad h0) rfl g1 dX2_removeFromQueue_5 ?_
  refine gf_X6_7 E (isOrder_of h0 g1) fl_X2_109 dX2_removeFromQueue_6 ?_
  refine ra_istore_n (L' := [(2, _), (0, _), (1, _)]) E dX2_removeFromQueue_9 rfl (by decide) rfl ?_
  refine ra_aload_n E dX2_removeFromQueue_10 rfl 1 rfl ?_
  refine ra_iload_n E dX2_removeFromQueue_11 rfl 0 rfl ?_
  refine ra_callIV (rest := []) E (c_X2_hasBarge _ h0 _ _ _ h) (lq_X2 _) cv_X2_hasBarge ml_X2_162 (by decide) (lm (h0.add (j := 0) (by decide))) (fun R => ⟨_, cel_canal tc ad h0 R⟩) rfl rfl rfl (Nat.le_of_ble_eq_true rfl) ⟨Nat.le_of_ble_eq_true rfl, Nat.le_of_ble_eq_true rfl⟩ ⟨Nat.zero_le _, Nat.zero_le _⟩ dX2_removeFromQueue_12 (fun r3 M2 h => ?_)
  obtain ⟨b4, h⟩ := h
  refine ra_if_eq (tgt := 28) E dX2_removeFromQueue_15 (by decide) (fun q5 => ?_) (fun q5 => ?_)
  · replace h := h.1 q5
    exact ra_vret E hr dX2_removeFromQueue_28 h
  · replace h := h.2 q5
    refine ra_aload_n E dX2_removeFromQueue_18 rfl 1 rfl ?_
    refine gf_X2_5 E h0 fl_X2_33 dX2_removeFromQueue_19 ?_
    refine ra_iload_n E dX2_removeFromQueue_22 rfl 0 rfl ?_
    obtain ⟨g6, h⟩ := h
    refine ra_aald E (lm (h0.add (by decide))) (cel_bars tc ad h0) rfl g6 dX2_removeFromQueue_23 ?_
    refine ra_iload_n E dX2_removeFromQueue_24 rfl 2 rfl ?_
    refine ra_callVV (rest := []) E (c_X1_unqueue _ (isBarge_of h0 g6) _ _ _ h) (lq_X1 _) cv_X1_unqueue ml_X2_216 (by decide) (lm (Nat.lt_of_succ_lt (isBarge_of h0 g6).lt)) (fun R => ⟨_, cel_barge tc ad (isBarge_of h0 g6) R⟩) rfl rfl rfl (Nat.le_of_ble_eq_true rfl) ⟨Nat.le_of_ble_eq_true rfl, Nat.le_of_ble_eq_true rfl⟩ ⟨Nat.zero_le _, Nat.zero_le _⟩ dX2_removeFromQueue_25 (fun M7 h => ?_)
    exact ra_vret E hr dX2_removeFromQueue_28 h
def f_X2_isInHarbor (a0 : Nat) (p1 : Int32) (M : TM) (K : Int32 → TM → Prop) : Prop := f_X2_hasBarge a0 p1 M (fun r2 M1 => ((r2 = 0 → K (0 : Int32) M1) ∧ (¬ r2 = 0 → vp_in p1 5 ∧ ((¬ (M1 (a0 + 21 + 2 * p1.toNatClampNeg) 0) = 0 → K (0 : Int32) M1) ∧ ((M1 (a0 + 21 + 2 * p1.toNatClampNeg) 0) = 0 → vp_in p1 5 ∧ f_X1_isInLock (a0 + 21 + 2 * p1.toNatClampNeg) M1 (fun r9 M8 => ((¬ r9 = 0 → K (0 : Int32) M8) ∧ (r9 = 0 → K (1 : Int32) M8))))))))
set_option maxRecDepth 100000 in
set_option maxHeartbeats 4000000 in
theorem c_X2_isInHarbor {ad : Nat → Nat} (a0 : Nat) (h0 : IsCanal a0) (p1 : Int32) (M : TM) (K : Int32 → TM → Prop) (h : f_X2_isInHarbor a0 p1 M K) : MI yX2_isInHarbor cX2_isInHarbor 2 (some .boolean) 1 ad [.ref (ad a0), .int p1] M (fun r M' => (r = 0 ∨ r = 1) ∧ K r M') := by
  refine MI_of RX2 rfl (by decide +kernel) (Nat.le_of_ble_eq_true rfl) (fun p l e s m below meth c D tc E hr => ?_)
  unfold f_X2_isInHarbor at h
  refine ra_aload_n E dX2_isInHarbor_0 rfl 0 rfl ?_
  refine ra_iload_n E dX2_isInHarbor_1 rfl 1 rfl ?_
  refine ra_callIV (rest := []) E (c_X2_hasBarge _ h0 _ _ _ h) (lq_X2 _) cv_X2_hasBarge ml_X2_162 (by decide) (lm (h0.add (j := 0) (by decide))) (fun R => ⟨_, cel_canal tc ad h0 R⟩) rfl rfl rfl (Nat.le_of_ble_eq_true rfl) ⟨Nat.le_of_ble_eq_true rfl, Nat.le_of_ble_eq_true rfl⟩ ⟨Nat.zero_le _, Nat.zero_le _⟩ dX2_isInHarbor_2 (fun r2 M1 h => ?_)
  obtain ⟨b3, h⟩ := h
  refine ra_if_eq (tgt := 36) E dX2_isInHarbor_5 (by decide) (fun q4 => ?_) (fun q4 => ?_)
  · replace h := h.1 q4
    refine ra_iconst E dX2_isInHarbor_36 ki_0 ?_
    exact ra_zret E hr rfl dX2_isInHarbor_37 ⟨Or.inl rfl, h⟩
  · replace h := h.2 q4
    refine ra_aload_n E dX2_isInHarbor_8 rfl 0 rfl ?_
    refine gf_X2_5 E h0 fl_X2_33 dX2_isInHarbor_9 ?_
    refine ra_iload_n E dX2_isInHarbor_12 rfl 1 rfl ?_
    obtain ⟨g5, h⟩ := h
    refine ra_aald E (lm (h0.add (by decide))) (cel_bars tc ad h0) rfl g5 dX2_isInHarbor_13 ?_
    refine gf_X1_0 E (isBarge_of h0 g5) fl_X2_98 dX2_isInHarbor_14 ?_
    refine ra_if_ne (tgt := 36) E dX2_isInHarbor_17 (by decide) (fun q6 => ?_) (fun q6 => ?_)
    · replace h := h.1 q6
      refine ra_iconst E dX2_isInHarbor_36 ki_0 ?_
      exact ra_zret E hr rfl dX2_isInHarbor_37 ⟨Or.inl rfl, h⟩
    · replace h := h.2 q6
      refine ra_aload_n E dX2_isInHarbor_20 rfl 0 rfl ?_
      refine gf_X2_5 E h0 fl_X2_33 dX2_isInHarbor_21 ?_
      refine ra_iload_n E dX2_isInHarbor_24 rfl 1 rfl ?_
      obtain ⟨g7, h⟩ := h
      refine ra_aald E (lm (h0.add (by decide))) (cel_bars tc ad h0) rfl g7 dX2_isInHarbor_25 ?_
      refine ra_callIV (rest := []) E (c_X1_isInLock _ (isBarge_of h0 g7) _ _ h) (lq_X1 _) cv_X1_isInLock ml_X2_101 (by decide) (lm (Nat.lt_of_succ_lt (isBarge_of h0 g7).lt)) (fun R => ⟨_, cel_barge tc ad (isBarge_of h0 g7) R⟩) rfl rfl rfl (Nat.le_of_ble_eq_true rfl) ⟨Nat.le_of_ble_eq_true rfl, Nat.le_of_ble_eq_true rfl⟩ ⟨Nat.zero_le _, Nat.zero_le _⟩ dX2_isInHarbor_26 (fun r9 M8 h => ?_)
      obtain ⟨b10, h⟩ := h
      refine ra_if_ne (tgt := 36) E dX2_isInHarbor_29 (by decide) (fun q11 => ?_) (fun q11 => ?_)
      · replace h := h.1 q11
        refine ra_iconst E dX2_isInHarbor_36 ki_0 ?_
        exact ra_zret E hr rfl dX2_isInHarbor_37 ⟨Or.inl rfl, h⟩
      · replace h := h.2 q11
        refine ra_iconst E dX2_isInHarbor_32 ki_1 ?_
        refine ra_goto (tgt := 37) E dX2_isInHarbor_33 (by decide) ?_
        exact ra_zret E hr rfl dX2_isInHarbor_37 ⟨Or.inr rfl, h⟩
def f_X2_canLoadFlour (a0 : Nat) (p1 : Int32) (p2 : Int32) (M : TM) (K : Int32 → TM → Prop) : Prop := f_X2_isInHarbor a0 p1 M (fun r2 M1 => ((r2 = 0 → K (0 : Int32) M1) ∧ (¬ r2 = 0 → vp_in p1 5 ∧ (((99 : Int32) < ((M1 (a0 + 21 + 2 * p1.toNatClampNeg) 4) + p2) → K (0 : Int32) M1) ∧ (¬ (99 : Int32) < ((M1 (a0 + 21 + 2 * p1.toNatClampNeg) 4) + p2) → K (1 : Int32) M1)))))
set_option maxRecDepth 100000 in
set_option maxHeartbeats 4000000 in
theorem c_X2_canLoadFlour {ad : Nat → Nat} (a0 : Nat) (h0 : IsCanal a0) (p1 : Int32) (p2 : Int32) (M : TM) (K : Int32 → TM → Prop) (h : f_X2_canLoadFlour a0 p1 p2 M K) : MI yX2_canLoadFlour cX2_canLoadFlour 3 (some .boolean) 2 ad [.ref (ad a0), .int p1, .int p2] M (fun r M' => (r = 0 ∨ r = 1) ∧ K r M') := by
  refine MI_of RX2 rfl (by decide +kernel) (Nat.le_of_ble_eq_true rfl) (fun p l e s m below meth c D tc E hr => ?_)
  unfold f_X2_canLoadFlour at h
  refine ra_aload_n E dX2_canLoadFlour_0 rfl 0 rfl ?_
  refine ra_iload_n E dX2_canLoadFlour_1 rfl 1 rfl ?_
  refine ra_callIV (rest := []) E (c_X2_isInHarbor _ h0 _ _ _ h) (lq_X2 _) cv_X2_isInHarbor ml_X2_219 (by decide) (lm (h0.add (j := 0) (by decide))) (fun R => ⟨_, cel_canal tc ad h0 R⟩) rfl rfl rfl (Nat.le_of_ble_eq_true rfl) ⟨Nat.le_of_ble_eq_true rfl, Nat.le_of_ble_eq_true rfl⟩ ⟨Nat.zero_le _, Nat.zero_le _⟩ dX2_canLoadFlour_2 (fun r2 M1 h => ?_)
  obtain ⟨b3, h⟩ := h
  refine ra_if_eq (tgt := 28) E dX2_canLoadFlour_5 (by decide) (fun q4 => ?_) (fun q4 => ?_)
  · replace h := h.1 q4
    refine ra_iconst E dX2_canLoadFlour_28 ki_0 ?_
    exact ra_zret E hr rfl dX2_canLoadFlour_29 ⟨Or.inl rfl, h⟩
  · replace h := h.2 q4
    refine ra_aload_n E dX2_canLoadFlour_8 rfl 0 rfl ?_
    refine gf_X2_5 E h0 fl_X2_33 dX2_canLoadFlour_9 ?_
    refine ra_iload_n E dX2_canLoadFlour_12 rfl 1 rfl ?_
    obtain ⟨g5, h⟩ := h
    refine ra_aald E (lm (h0.add (by decide))) (cel_bars tc ad h0) rfl g5 dX2_canLoadFlour_13 ?_
    refine gf_X1_4 E (isBarge_of h0 g5) fl_X2_222 dX2_canLoadFlour_14 ?_
    refine ra_iload_n E dX2_canLoadFlour_17 rfl 2 rfl ?_
    refine ra_iadd E dX2_canLoadFlour_18 ?_
    refine ra_bipush E dX2_canLoadFlour_19 kb_99 ?_
    refine ra_icmp_gt (tgt := 28) E dX2_canLoadFlour_21 (by decide) (fun q6 => ?_) (fun q6 => ?_)
    · replace h := h.1 q6
      refine ra_iconst E dX2_canLoadFlour_28 ki_0 ?_
      exact ra_zret E hr rfl dX2_canLoadFlour_29 ⟨Or.inl rfl, h⟩
    · replace h := h.2 q6
      refine ra_iconst E dX2_canLoadFlour_24 ki_1 ?_
      refine ra_goto (tgt := 29) E dX2_canLoadFlour_25 (by decide) ?_
      exact ra_zret E hr rfl dX2_canLoadFlour_29 ⟨Or.inr rfl, h⟩
def f_X2_loadFlour (a0 : Nat) (p1 : Int32) (p2 : Int32) (M : TM) (K : TM → Prop) : Prop := f_X2_hasBarge a0 p1 M (fun r2 M1 => ((r2 = 0 → K M1) ∧ (¬ r2 = 0 → vp_in p1 5 ∧ ∀ M6, M6 = u2 M1 (a0 + 21 + 2 * p1.toNatClampNeg) 4 ((M1 (a0 + 21 + 2 * p1.toNatClampNeg) 4) + p2) → ∀ M7, M7 = u2 M6 a0 9 ((M6 a0 9) - p2) → K M7)))
set_option maxRecDepth 100000 in
set_option maxHeartbeats 4000000 in
theorem c_X2_loadFlour {ad : Nat → Nat} (a0 : Nat) (h0 : IsCanal a0) (p1 : Int32) (p2 : Int32) (M : TM) (K : TM → Prop) (h : f_X2_loadFlour a0 p1 p2 M K) : MV yX2_loadFlour cX2_loadFlour 3 1 ad [.ref (ad a0), .int p1, .int p2] M K := by
  refine MV_of RX2 rfl (by decide +kernel) (Nat.le_of_ble_eq_true rfl) (fun p l e s m below meth c D tc E hr => ?_)
  unfold f_X2_loadFlour at h
  refine ra_aload_n E dX2_loadFlour_0 rfl 0 rfl ?_
  refine ra_iload_n E dX2_loadFlour_1 rfl 1 rfl ?_
  refine ra_callIV (rest := []) E (c_X2_hasBarge _ h0 _ _ _ h) (lq_X2 _) cv_X2_hasBarge ml_X2_162 (by decide) (lm (h0.add (j := 0) (by decide))) (fun R => ⟨_, cel_canal tc ad h0 R⟩) rfl rfl rfl (Nat.le_of_ble_eq_true rfl) ⟨Nat.le_of_ble_eq_true rfl, Nat.le_of_ble_eq_true rfl⟩ ⟨Nat.zero_le _, Nat.zero_le _⟩ dX2_loadFlour_2 (fun r2 M1 h => ?_)
  obtain ⟨b3, h⟩ := h
  refine ra_if_eq (tgt := 33) E dX2_loadFlour_5 (by decide) (fun q4 => ?_) (fun q4 => ?_)
  · replace h := h.1 q4
    exact ra_vret E hr dX2_loadFlour_33 h
  · replace h := h.2 q4
    refine ra_aload_n E dX2_loadFlour_8 rfl 0 rfl ?_
    refine gf_X2_5 E h0 fl_X2_33 dX2_loadFlour_9 ?_
    refine ra_iload_n E dX2_loadFlour_12 rfl 1 rfl ?_
    obtain ⟨g5, h⟩ := h
    refine ra_aald E (lm (h0.add (by decide))) (cel_bars tc ad h0) rfl g5 dX2_loadFlour_13 ?_
    refine ra_dup E dX2_loadFlour_14 rfl ?_
    refine gf_X1_4 E (isBarge_of h0 g5) fl_X2_222 dX2_loadFlour_15 ?_
    refine ra_iload_n E dX2_loadFlour_18 rfl 2 rfl ?_
    refine ra_iadd E dX2_loadFlour_19 ?_
    refine pf_X1_4 E (isBarge_of h0 g5) fl_X2_222 dX2_loadFlour_20 ?_
    replace h := h _ rfl
    refine ra_aload_n E dX2_loadFlour_23 rfl 0 rfl ?_
    refine ra_dup E dX2_loadFlour_24 rfl ?_
    refine gf_X2_9 E h0 fl_X2_49 dX2_loadFlour_25 ?_
    refine ra_iload_n E dX2_loadFlour_28 rfl 2 rfl ?_
    refine ra_isub E dX2_loadFlour_29 ?_
    refine pf_X2_9 E h0 fl_X2_49 dX2_loadFlour_30 ?_
    replace h := h _ rfl
    exact ra_vret E hr dX2_loadFlour_33 h
def f_X2_canGather (a0 : Nat) (p1 : Int32) (M : TM) (K : Int32 → TM → Prop) : Prop := f_X2_hasBarge a0 p1 M (fun r2 M1 => ((r2 = 0 → K (0 : Int32) M1) ∧ (¬ r2 = 0 → vp_in p1 5 ∧ f_X1_isInLock (a0 + 21 + 2 * p1.toNatClampNeg) M1 (fun r7 M6 => ((¬ r7 = 0 → K (0 : Int32) M6) ∧ (r7 = 0 → K (1 : Int32) M6))))))
set_option maxRecDepth 100000 in
set_option maxHeartbeats 4000000 in
theorem c_X2_canGather {ad : Nat → Nat} (a0 : Nat) (h0 : IsCanal a0) (p1 : Int32) (M : TM) (K : Int32 → TM → Prop) (h : f_X2_canGather a0 p1 M K) : MI yX2_canGather cX2_canGather 2 (some .boolean) 1 ad [.ref (ad a0), .int p1] M (fun r M' => (r = 0 ∨ r = 1) ∧ K r M') := by
  refine MI_of RX2 rfl (by decide +kernel) (Nat.le_of_ble_eq_true rfl) (fun p l e s m below meth c D tc E hr => ?_)
  unfold f_X2_canGather at h
  refine ra_aload_n E dX2_canGather_0 rfl 0 rfl ?_
  refine ra_iload_n E dX2_canGather_1 rfl 1 rfl ?_
  refine ra_callIV (rest := []) E (c_X2_hasBarge _ h0 _ _ _ h) (lq_X2 _) cv_X2_hasBarge ml_X2_162 (by decide) (lm (h0.add (j := 0) (by decide))) (fun R => ⟨_, cel_canal tc ad h0 R⟩) rfl rfl rfl (Nat.le_of_ble_eq_true rfl) ⟨Nat.le_of_ble_eq_true rfl, Nat.le_of_ble_eq_true rfl⟩ ⟨Nat.zero_le _, Nat.zero_le _⟩ dX2_canGather_2 (fun r2 M1 h => ?_)
  obtain ⟨b3, h⟩ := h
  refine ra_if_eq (tgt := 24) E dX2_canGather_5 (by decide) (fun q4 => ?_) (fun q4 => ?_)
  · replace h := h.1 q4
    refine ra_iconst E dX2_canGather_24 ki_0 ?_
    exact ra_zret E hr rfl dX2_canGather_25 ⟨Or.inl rfl, h⟩
  · replace h := h.2 q4
    refine ra_aload_n E dX2_canGather_8 rfl 0 rfl ?_
    refine gf_X2_5 E h0 fl_X2_33 dX2_canGather_9 ?_
    refine ra_iload_n E dX2_canGather_12 rfl 1 rfl ?_
    obtain ⟨g5, h⟩ := h
    refine ra_aald E (lm (h0.add (by decide))) (cel_bars tc ad h0) rfl g5 dX2_canGather_13 ?_
    refine ra_callIV (rest := []) E (c_X1_isInLock _ (isBarge_of h0 g5) _ _ h) (lq_X1 _) cv_X1_isInLock ml_X2_101 (by decide) (lm (Nat.lt_of_succ_lt (isBarge_of h0 g5).lt)) (fun R => ⟨_, cel_barge tc ad (isBarge_of h0 g5) R⟩) rfl rfl rfl (Nat.le_of_ble_eq_true rfl) ⟨Nat.le_of_ble_eq_true rfl, Nat.le_of_ble_eq_true rfl⟩ ⟨Nat.zero_le _, Nat.zero_le _⟩ dX2_canGather_14 (fun r7 M6 h => ?_)
    obtain ⟨b8, h⟩ := h
    refine ra_if_ne (tgt := 24) E dX2_canGather_17 (by decide) (fun q9 => ?_) (fun q9 => ?_)
    · replace h := h.1 q9
      refine ra_iconst E dX2_canGather_24 ki_0 ?_
      exact ra_zret E hr rfl dX2_canGather_25 ⟨Or.inl rfl, h⟩
    · replace h := h.2 q9
      refine ra_iconst E dX2_canGather_20 ki_1 ?_
      refine ra_goto (tgt := 25) E dX2_canGather_21 (by decide) ?_
      exact ra_zret E hr rfl dX2_canGather_25 ⟨Or.inr rfl, h⟩
def f_X2_gather (a0 : Nat) (p1 : Int32) (M : TM) (K : TM → Prop) : Prop := f_X2_hasBarge a0 p1 M (fun r2 M1 => ((r2 = 0 → K M1) ∧ (¬ r2 = 0 → vp_in p1 5 ∧ f_X2_hasPlace a0 (M1 (a0 + 21 + 2 * p1.toNatClampNeg) 0) M1 (fun r7 M6 => ((r7 = 0 → K M6) ∧ (¬ r7 = 0 → vp_in p1 5 ∧ vp_in p1 5 ∧ vp_in (M6 (a0 + 21 + 2 * p1.toNatClampNeg) 0) 16 ∧ ∀ M13, M13 = u2 M6 (a0 + 21 + 2 * p1.toNatClampNeg) 6 ((M6 (a0 + 21 + 2 * p1.toNatClampNeg) 6) + (M6 (a0 + 2) (M6 (a0 + 21 + 2 * p1.toNatClampNeg) 0).toNatClampNeg)) → vp_in (M6 (a0 + 21 + 2 * p1.toNatClampNeg) 0) 16 ∧ ∀ M15, M15 = u2 M13 (a0 + 2) (M6 (a0 + 21 + 2 * p1.toNatClampNeg) 0).toNatClampNeg (0 : Int32) → K M15))))))
set_option maxRecDepth 100000 in
set_option maxHeartbeats 4000000 in
theorem c_X2_gather {ad : Nat → Nat} (a0 : Nat) (h0 : IsCanal a0) (p1 : Int32) (M : TM) (K : TM → Prop) (h : f_X2_gather a0 p1 M K) : MV yX2_gather cX2_gather 3 1 ad [.ref (ad a0), .int p1] M K := by
  refine MV_of RX2 rfl (by decide +kernel) (Nat.le_of_ble_eq_true rfl) (fun p l e s m below meth c D tc E hr => ?_)
  unfold f_X2_gather at h
  refine ra_aload_n E dX2_gather_0 rfl 0 rfl ?_
  refine ra_iload_n E dX2_gather_1 rfl 1 rfl ?_
  refine ra_callIV (rest := []) E (c_X2_hasBarge _ h0 _ _ _ h) (lq_X2 _) cv_X2_hasBarge ml_X2_162 (by decide) (lm (h0.add (j := 0) (by decide))) (fun R => ⟨_, cel_canal tc ad h0 R⟩) rfl rfl rfl (Nat.le_of_ble_eq_true rfl) ⟨Nat.le_of_ble_eq_true rfl, Nat.le_of_ble_eq_true rfl⟩ ⟨Nat.zero_le _, Nat.zero_le _⟩ dX2_gather_2 (fun r2 M1 h => ?_)
  obtain ⟨b3, h⟩ := h
  refine ra_if_eq (tgt := 61) E dX2_gather_5 (by decide) (fun q4 => ?_) (fun q4 => ?_)
  · replace h := h.1 q4
    exact ra_vret E hr dX2_gather_61 h
  · replace h := h.2 q4
    refine ra_aload_n E dX2_gather_8 rfl 0 rfl ?_
    refine ra_aload_n E dX2_gather_9 rfl 0 rfl ?_
    refine gf_X2_5 E h0 fl_X2_33 dX2_gather_10 ?_
    refine ra_iload_n E dX2_gather_13 rfl 1 rfl ?_
    obtain ⟨g5, h⟩ := h
    refine ra_aald E (lm (h0.add (by decide))) (cel_bars tc ad h0) rfl g5 dX2_gather_14 ?_
    refine gf_X1_0 E (isBarge_of h0 g5) fl_X2_98 dX2_gather_15 ?_
    refine ra_callIV (rest := []) E (c_X2_hasPlace _ h0 _ _ _ h) (lq_X2 _) cv_X2_hasPlace ml_X2_90 (by decide) (lm (h0.add (j := 0) (by decide))) (fun R => ⟨_, cel_canal tc ad h0 R⟩) rfl rfl rfl (Nat.le_of_ble_eq_true rfl) ⟨Nat.le_of_ble_eq_true rfl, Nat.le_of_ble_eq_true rfl⟩ ⟨Nat.zero_le _, Nat.zero_le _⟩ dX2_gather_18 (fun r7 M6 h => ?_)
    obtain ⟨b8, h⟩ := h
    refine ra_if_eq (tgt := 61) E dX2_gather_21 (by decide) (fun q9 => ?_) (fun q9 => ?_)
    · replace h := h.1 q9
      exact ra_vret E hr dX2_gather_61 h
    · replace h := h.2 q9
      refine ra_aload_n E dX2_gather_24 rfl 0 rfl ?_
      refine gf_X2_5 E h0 fl_X2_33 dX2_gather_25 ?_
      refine ra_iload_n E dX2_gather_28 rfl 1 rfl ?_
      obtain ⟨g10, h⟩ := h
      refine ra_aald E (lm (h0.add (by decide))) (cel_bars tc ad h0) rfl g10 dX2_gather_29 ?_
      refine gf_X1_0 E (isBarge_of h0 g10) fl_X2_98 dX2_gather_30 ?_
      refine ra_istore_n (L' := [(2, _), (0, _), (1, _)]) E dX2_gather_33 rfl (by decide) rfl ?_
      refine ra_aload_n E dX2_gather_34 rfl 1 rfl ?_
      refine gf_X2_5 E h0 fl_X2_33 dX2_gather_35 ?_
      refine ra_iload_n E dX2_gather_38 rfl 2 rfl ?_
      obtain ⟨g11, h⟩ := h
      refine ra_aald E (lm (h0.add (by decide))) (cel_bars tc ad h0) rfl g11 dX2_gather_39 ?_
      refine ra_dup E dX2_gather_40 rfl ?_
      refine gf_X1_6 E (isBarge_of h0 g11) fl_X2_151 dX2_gather_41 ?_
      refine ra_aload_n E dX2_gather_44 rfl 1 rfl ?_
      refine gf_X2_2 E h0 fl_X2_21 dX2_gather_45 ?_
      refine ra_iload_n E dX2_gather_48 rfl 0 rfl ?_
      obtain ⟨g12, h⟩ := h
      refine ra_iald E (lm (h0.add (by decide))) (cel_used tc ad h0) g12 dX2_gather_49 ?_
      refine ra_iadd E dX2_gather_50 ?_
      refine pf_X1_6 E (isBarge_of h0 g11) fl_X2_151 dX2_gather_51 ?_
      replace h := h _ rfl
      refine ra_aload_n E dX2_gather_54 rfl 1 rfl ?_
      refine gf_X2_2 E h0 fl_X2_21 dX2_gather_55 ?_
      refine ra_iload_n E dX2_gather_58 rfl 0 rfl ?_
      refine ra_iconst E dX2_gather_59 ki_0 ?_
      obtain ⟨g14, h⟩ := h
      refine ra_iast E (lm (h0.add (by decide))) (cel_used tc ad h0) g14 dX2_gather_60 ?_
      replace h := h _ rfl
      exact ra_vret E hr dX2_gather_61 h
def f_X2_clean (a0 : Nat) (p1 : Int32) (M : TM) (K : TM → Prop) : Prop := f_X2_hasBarge a0 p1 M (fun r2 M1 => ((r2 = 0 → K M1) ∧ (¬ r2 = 0 → vp_in p1 5 ∧ vp_in p1 5 ∧ ∀ M7, M7 = u2 M1 (a0 + 21 + 2 * p1.toNatClampNeg) 5 ((M1 (a0 + 21 + 2 * p1.toNatClampNeg) 5) + (M1 (a0 + 21 + 2 * p1.toNatClampNeg) 6)) → vp_in p1 5 ∧ ∀ M9, M9 = u2 M7 (a0 + 21 + 2 * p1.toNatClampNeg) 6 (0 : Int32) → K M9)))
set_option maxRecDepth 100000 in
set_option maxHeartbeats 4000000 in
theorem c_X2_clean {ad : Nat → Nat} (a0 : Nat) (h0 : IsCanal a0) (p1 : Int32) (M : TM) (K : TM → Prop) (h : f_X2_clean a0 p1 M K) : MV yX2_clean cX2_clean 2 1 ad [.ref (ad a0), .int p1] M K := by
  refine MV_of RX2 rfl (by decide +kernel) (Nat.le_of_ble_eq_true rfl) (fun p l e s m below meth c D tc E hr => ?_)
  unfold f_X2_clean at h
  refine ra_aload_n E dX2_clean_0 rfl 0 rfl ?_
  refine ra_iload_n E dX2_clean_1 rfl 1 rfl ?_
  refine ra_callIV (rest := []) E (c_X2_hasBarge _ h0 _ _ _ h) (lq_X2 _) cv_X2_hasBarge ml_X2_162 (by decide) (lm (h0.add (j := 0) (by decide))) (fun R => ⟨_, cel_canal tc ad h0 R⟩) rfl rfl rfl (Nat.le_of_ble_eq_true rfl) ⟨Nat.le_of_ble_eq_true rfl, Nat.le_of_ble_eq_true rfl⟩ ⟨Nat.zero_le _, Nat.zero_le _⟩ dX2_clean_2 (fun r2 M1 h => ?_)
  obtain ⟨b3, h⟩ := h
  refine ra_if_eq (tgt := 41) E dX2_clean_5 (by decide) (fun q4 => ?_) (fun q4 => ?_)
  · replace h := h.1 q4
    exact ra_vret E hr dX2_clean_41 h
  · replace h := h.2 q4
    refine ra_aload_n E dX2_clean_8 rfl 0 rfl ?_
    refine gf_X2_5 E h0 fl_X2_33 dX2_clean_9 ?_
    refine ra_iload_n E dX2_clean_12 rfl 1 rfl ?_
    obtain ⟨g5, h⟩ := h
    refine ra_aald E (lm (h0.add (by decide))) (cel_bars tc ad h0) rfl g5 dX2_clean_13 ?_
    refine ra_dup E dX2_clean_14 rfl ?_
    refine gf_X1_5 E (isBarge_of h0 g5) fl_X2_144 dX2_clean_15 ?_
    refine ra_aload_n E dX2_clean_18 rfl 0 rfl ?_
    refine gf_X2_5 E h0 fl_X2_33 dX2_clean_19 ?_
    refine ra_iload_n E dX2_clean_22 rfl 1 rfl ?_
    obtain ⟨g6, h⟩ := h
    refine ra_aald E (lm (h0.add (by decide))) (cel_bars tc ad h0) rfl g6 dX2_clean_23 ?_
    refine gf_X1_6 E (isBarge_of h0 g6) fl_X2_151 dX2_clean_24 ?_
    refine ra_iadd E dX2_clean_27 ?_
    refine pf_X1_5 E (isBarge_of h0 g5) fl_X2_144 dX2_clean_28 ?_
    replace h := h _ rfl
    refine ra_aload_n E dX2_clean_31 rfl 0 rfl ?_
    refine gf_X2_5 E h0 fl_X2_33 dX2_clean_32 ?_
    refine ra_iload_n E dX2_clean_35 rfl 1 rfl ?_
    obtain ⟨g8, h⟩ := h
    refine ra_aald E (lm (h0.add (by decide))) (cel_bars tc ad h0) rfl g8 dX2_clean_36 ?_
    refine ra_iconst E dX2_clean_37 ki_0 ?_
    refine pf_X1_6 E (isBarge_of h0 g8) fl_X2_151 dX2_clean_38 ?_
    replace h := h _ rfl
    exact ra_vret E hr dX2_clean_41 h
def f_X2_canPass (a0 : Nat) (p1 : Int32) (M : TM) (K : Int32 → TM → Prop) : Prop := (((10000 : Int32) < ((M a0 8) + p1) → K (0 : Int32) M) ∧ (¬ (10000 : Int32) < ((M a0 8) + p1) → K (1 : Int32) M))
set_option maxRecDepth 100000 in
set_option maxHeartbeats 4000000 in
theorem c_X2_canPass {ad : Nat → Nat} (a0 : Nat) (h0 : IsCanal a0) (p1 : Int32) (M : TM) (K : Int32 → TM → Prop) (h : f_X2_canPass a0 p1 M K) : MI yX2_canPass cX2_canPass 2 (some .boolean) 0 ad [.ref (ad a0), .int p1] M (fun r M' => (r = 0 ∨ r = 1) ∧ K r M') := by
  refine MI_of RX2 rfl (by decide +kernel) (Nat.le_of_ble_eq_true rfl) (fun p l e s m below meth c D tc E hr => ?_)
  unfold f_X2_canPass at h
  refine ra_aload_n E dX2_canPass_0 rfl 0 rfl ?_
  refine gf_X2_8 E h0 fl_X2_46 dX2_canPass_1 ?_
  refine ra_iload_n E dX2_canPass_4 rfl 1 rfl ?_
  refine ra_iadd E dX2_canPass_5 ?_
  refine ra_sipush E dX2_canPass_6 ks_10000 ?_
  refine ra_icmp_gt (tgt := 16) E dX2_canPass_9 (by decide) (fun q1 => ?_) (fun q1 => ?_)
  · replace h := h.1 q1
    refine ra_iconst E dX2_canPass_16 ki_0 ?_
    exact ra_zret E hr rfl dX2_canPass_17 ⟨Or.inl rfl, h⟩
  · replace h := h.2 q1
    refine ra_iconst E dX2_canPass_12 ki_1 ?_
    refine ra_goto (tgt := 17) E dX2_canPass_13 (by decide) ?_
    exact ra_zret E hr rfl dX2_canPass_17 ⟨Or.inr rfl, h⟩
def f_X2_move_L26 (a0 : Nat) (p1 : Int32) (a2 : Nat) (K : TM → Prop) (x1 : Int32) (z0 : Int32) (M : TM) : Prop := f_X2_hasSection a0 (if z0 < (M a2 0) then z0 else (M a2 0)) M (fun r3 M2 => ((¬ r3 = 0 → vp_in (if z0 < (M a2 0) then z0 else (M a2 0)) 15 ∧ f_X1_isInLock a2 M2 (fun r8 M7 => ((r8 = 0 → ((¬ (M7 (a0 + 6 + (if z0 < (M a2 0) then z0 else (M a2 0)).toNatClampNeg) 0) = 0 → ((¬ (M7 (a0 + 6 + (if z0 < (M a2 0) then z0 else (M a2 0)).toNatClampNeg) 2) = (-1 : Int32) → K M7) ∧ ((M7 (a0 + 6 + (if z0 < (M a2 0) then z0 else (M a2 0)).toNatClampNeg) 2) = (-1 : Int32) → ∀ M13, M13 = u2 M7 (a0 + 6 + (if z0 < (M a2 0) then z0 else (M a2 0)).toNatClampNeg) 2 x1 → ∀ M14, M14 = u2 M13 a2 3 (M13 (a0 + 6 + (if z0 < (M a2 0) then z0 else (M a2 0)).toNatClampNeg) 0) → K M14))) ∧ ((M7 (a0 + 6 + (if z0 < (M a2 0) then z0 else (M a2 0)).toNatClampNeg) 0) = 0 → ∀ M15, M15 = u2 M7 a2 0 z0 → K M15))) ∧ (¬ r8 = 0 → ∀ M16, M16 = u2 M7 a2 3 ((M7 a2 3) - (1 : Int32)) → ((¬ (M16 a2 3) = 0 → K M16) ∧ ((M16 a2 3) = 0 → ∀ M18, M18 = u2 M16 (a0 + 6 + (if z0 < (M a2 0) then z0 else (M a2 0)).toNatClampNeg) 2 (-1 : Int32) → ∀ M19, M19 = u2 M18 a2 0 z0 → K M19)))))) ∧ (r3 = 0 → K M2)))
set_option maxRecDepth 100000 in
set_option maxHeartbeats 4000000 in
theorem l_X2_move_L26 {p : Program} {l : Launch} {e : Env} {s : State} {m : MethodId} {args : Array Value} {below : List Frame} {meth : Method} {c : Code} {D : va_G} {tc : Nat → ClassId} {ad : Nat → Nat} (a0 : Nat) (h0 : IsCanal a0) (p1 : Int32) (a2 : Nat) (h2 : IsBarge a2) {K : TM → Prop} (E : Ev p s m args meth c D tc ad RX2 cX2_move 6) (hr : meth.sig.returnType = none) : ∀ (x1 : Int32) (z0 : Int32) (M : TM) , f_X2_move_L26 a0 p1 a2 K x1 z0 M → Wa p l e (rmD 1) s m args below meth c 0 0 (MQ below (va_Qv K (EndW D tc ad) (A0 ad s.heap.size)) args s 0 0 (A0 ad s.heap.size)) D tc ad 6 M 26 [(0, .ref (ad a0)), (1, .int x1), (2, .ref (ad a2))] [.int z0] := by
  intro x1 z0 M  h
  unfold f_X2_move_L26 at h
  refine ra_istore_n (L' := [(3, _), (0, _), (1, _), (2, _)]) E dX2_move_26 rfl (by decide) rfl ?_
  refine ra_aload_n E dX2_move_27 rfl 3 rfl ?_
  refine gf_X1_0 E h2 fl_X2_98 dX2_move_28 ?_
  refine ra_iload_n E dX2_move_31 rfl 0 rfl ?_
  refine ra_mmin E ml_X2_179 ⟨Nat.le_of_ble_eq_true rfl, Nat.le_of_ble_eq_true rfl⟩ ⟨Nat.zero_le _, Nat.zero_le _⟩ dX2_move_32 ?_
  refine ra_istore (L' := [(4, _), (3, _), (0, _), (1, _), (2, _)]) E dX2_move_35 (by decide) rfl ?_
  refine ra_aload_n E dX2_move_37 rfl 2 rfl ?_
  refine ra_iload E dX2_move_38 0 rfl ?_
  refine ra_callIV (rest := []) E (c_X2_hasSection _ h0 _ _ _ h) (lq_X2 _) cv_X2_hasSection ml_X2_182 (by decide) (lm (h0.add (j := 0) (by decide))) (fun R => ⟨_, cel_canal tc ad h0 R⟩) rfl rfl rfl (Nat.le_of_ble_eq_true rfl) ⟨Nat.le_of_ble_eq_true rfl, Nat.le_of_ble_eq_true rfl⟩ ⟨Nat.zero_le _, Nat.zero_le _⟩ dX2_move_40 (fun r3 M2 h => ?_)
  obtain ⟨b4, h⟩ := h
  refine ra_if_ne (tgt := 47) E dX2_move_43 (by decide) (fun q5 => ?_) (fun q5 => ?_)
  · replace h := h.1 q5
    refine ra_aload_n E dX2_move_47 rfl 2 rfl ?_
    refine gf_X2_1 E h0 fl_X2_17 dX2_move_48 ?_
    refine ra_iload E dX2_move_51 0 rfl ?_
    obtain ⟨g6, h⟩ := h
    refine ra_aald E (lm (h0.add (by decide))) (cel_secs tc ad h0) rfl g6 dX2_move_53 ?_
    refine ra_astore (L' := [(5, _), (4, _), (3, _), (0, _), (1, _), (2, _)]) E dX2_move_54 (by decide) rfl ?_
    refine ra_aload_n E dX2_move_56 rfl 5 rfl ?_
    refine ra_callIV (rest := []) E (c_X1_isInLock _ h2 _ _ h) (lq_X1 _) cv_X1_isInLock ml_X2_101 (by decide) (lm (Nat.lt_of_succ_lt h2.lt)) (fun R => ⟨_, cel_barge tc ad h2 R⟩) rfl rfl rfl (Nat.le_of_ble_eq_true rfl) ⟨Nat.le_of_ble_eq_true rfl, Nat.le_of_ble_eq_true rfl⟩ ⟨Nat.zero_le _, Nat.zero_le _⟩ dX2_move_57 (fun r8 M7 h => ?_)
    obtain ⟨b9, h⟩ := h
    refine ra_if_eq (tgt := 94) E dX2_move_60 (by decide) (fun q10 => ?_) (fun q10 => ?_)
    · replace h := h.1 q10
      refine ra_aload E dX2_move_94 0 rfl ?_
      refine gf_X9_0 E (isSec_of h0 g6) fl_X2_191 dX2_move_96 ?_
      refine ra_if_ne (tgt := 110) E dX2_move_99 (by decide) (fun q11 => ?_) (fun q11 => ?_)
      · replace h := h.1 q11
        refine ra_aload E dX2_move_110 0 rfl ?_
        refine gf_X9_2 E (isSec_of h0 g6) fl_X2_247 dX2_move_112 ?_
        refine ra_iconst E dX2_move_115 ki_m1 ?_
        refine ra_icmp_ne (tgt := 134) E dX2_move_116 (by decide) (fun q12 => ?_) (fun q12 => ?_)
        · replace h := h.1 q12
          exact ra_vret E hr dX2_move_134 h
        · replace h := h.2 q12
          refine ra_aload E dX2_move_119 0 rfl ?_
          refine ra_iload_n E dX2_move_121 rfl 4 rfl ?_
          refine pf_X9_2 E (isSec_of h0 g6) fl_X2_247 dX2_move_122 ?_
          replace h := h _ rfl
          refine ra_aload_n E dX2_move_125 rfl 5 rfl ?_
          refine ra_aload E dX2_move_126 0 rfl ?_
          refine gf_X9_0 E (isSec_of h0 g6) fl_X2_191 dX2_move_128 ?_
          refine pf_X1_3 E h2 fl_X2_244 dX2_move_131 ?_
          replace h := h _ rfl
          exact ra_vret E hr dX2_move_134 h
      · replace h := h.2 q11
        refine ra_aload_n E dX2_move_102 rfl 5 rfl ?_
        refine ra_iload_n E dX2_move_103 rfl 2 rfl ?_
        refine pf_X1_0 E h2 fl_X2_98 dX2_move_104 ?_
        replace h := h _ rfl
        refine ra_goto (tgt := 134) E dX2_move_107 (by decide) ?_
        exact ra_vret E hr dX2_move_134 h
    · replace h := h.2 q10
      refine ra_aload_n E dX2_move_63 rfl 5 rfl ?_
      refine ra_dup E dX2_move_64 rfl ?_
      refine gf_X1_3 E h2 fl_X2_244 dX2_move_65 ?_
      refine ra_iconst E dX2_move_68 ki_1 ?_
      refine ra_isub E dX2_move_69 ?_
      refine pf_X1_3 E h2 fl_X2_244 dX2_move_70 ?_
      replace h := h _ rfl
      refine ra_aload_n E dX2_move_73 rfl 5 rfl ?_
      refine gf_X1_3 E h2 fl_X2_244 dX2_move_74 ?_
      refine ra_if_ne (tgt := 134) E dX2_move_77 (by decide) (fun q17 => ?_) (fun q17 => ?_)
      · replace h := h.1 q17
        exact ra_vret E hr dX2_move_134 h
      · replace h := h.2 q17
        refine ra_aload E dX2_move_80 0 rfl ?_
        refine ra_iconst E dX2_move_82 ki_m1 ?_
        refine pf_X9_2 E (isSec_of h0 g6) fl_X2_247 dX2_move_83 ?_
        replace h := h _ rfl
        refine ra_aload_n E dX2_move_86 rfl 5 rfl ?_
        refine ra_iload_n E dX2_move_87 rfl 2 rfl ?_
        refine pf_X1_0 E h2 fl_X2_98 dX2_move_88 ?_
        replace h := h _ rfl
        refine ra_goto (tgt := 134) E dX2_move_91 (by decide) ?_
        exact ra_vret E hr dX2_move_134 h
  · replace h := h.2 q5
    exact ra_vret E hr dX2_move_46 h
def f_X2_move (a0 : Nat) (p1 : Int32) (a2 : Nat) (M : TM) (K : TM → Prop) : Prop := (((M a2 1) ≤ (M a2 0) → f_X2_move_L26 a0 p1 a2 K p1 ((M a2 0) - (1 : Int32)) M) ∧ (¬ (M a2 1) ≤ (M a2 0) → f_X2_move_L26 a0 p1 a2 K p1 ((M a2 0) + (1 : Int32)) M))
set_option maxRecDepth 100000 in
set_option maxHeartbeats 4000000 in
theorem c_X2_move {ad : Nat → Nat} (a0 : Nat) (h0 : IsCanal a0) (p1 : Int32) (a2 : Nat) (h2 : IsBarge a2) (M : TM) (K : TM → Prop) (h : f_X2_move a0 p1 a2 M K) : MV yX2_move cX2_move 6 1 ad [.ref (ad a0), .int p1, .ref (ad a2)] M K := by
  refine MV_of RX2 rfl (by decide +kernel) (Nat.le_of_ble_eq_true rfl) (fun p l e s m below meth c D tc E hr => ?_)
  unfold f_X2_move at h
  refine ra_aload_n E dX2_move_0 rfl 2 rfl ?_
  refine gf_X1_1 E h2 fl_X2_168 dX2_move_1 ?_
  refine ra_aload_n E dX2_move_4 rfl 2 rfl ?_
  refine gf_X1_0 E h2 fl_X2_98 dX2_move_5 ?_
  refine ra_icmp_le (tgt := 20) E dX2_move_8 (by decide) (fun q1 => ?_) (fun q1 => ?_)
  · replace h := h.1 q1
    refine ra_aload_n E dX2_move_20 rfl 2 rfl ?_
    refine gf_X1_0 E h2 fl_X2_98 dX2_move_21 ?_
    refine ra_iconst E dX2_move_24 ki_1 ?_
    refine ra_isub E dX2_move_25 ?_
    exact ra_sub (L' := [(0, _), (1, _), (2, _)]) [0, 1, 2] rfl (l_X2_move_L26 a0 h0 p1 a2 h2 E hr _ _ _ h)
  · replace h := h.2 q1
    refine ra_aload_n E dX2_move_11 rfl 2 rfl ?_
    refine gf_X1_0 E h2 fl_X2_98 dX2_move_12 ?_
    refine ra_iconst E dX2_move_15 ki_1 ?_
    refine ra_iadd E dX2_move_16 ?_
    refine ra_goto (tgt := 26) E dX2_move_17 (by decide) ?_
    exact ra_sub (L' := [(0, _), (1, _), (2, _)]) [0, 1, 2] rfl (l_X2_move_L26 a0 h0 p1 a2 h2 E hr _ _ _ h)
def f_X2_pull_L36 (a0 : Nat) (a1 : Nat) (a2 : Nat) (p3 : Int32) (K : TM → Prop) (x3 : Int32) (M : TM) : Prop := (((bz (M a2 5)) = 0 → K M) ∧ (¬ (bz (M a2 5)) = 0 → ∀ M3, M3 = u2 M a2 3 ((M a2 3) - (1 : Int32)) → ((¬ (M3 a2 3) = 0 → K M3) ∧ ((M3 a2 3) = 0 → ∀ M5, M5 = u2 M3 a2 6 (2 : Int32) → f_X1_unqueue a1 x3 M5 (fun M6 => K M6)))))
set_option maxRecDepth 100000 in
set_option maxHeartbeats 4000000 in
theorem l_X2_pull_L36 {p : Program} {l : Launch} {e : Env} {s : State} {m : MethodId} {args : Array Value} {below : List Frame} {meth : Method} {c : Code} {D : va_G} {tc : Nat → ClassId} {ad : Nat → Nat} (a0 : Nat) (h0 : IsCanal a0) (a1 : Nat) (h1 : IsBarge a1) (a2 : Nat) (h2 : IsOrder a2) (p3 : Int32) {K : TM → Prop} (E : Ev p s m args meth c D tc ad RX2 cX2_pull 4) (hr : meth.sig.returnType = none) : ∀ (x3 : Int32) (M : TM) , f_X2_pull_L36 a0 a1 a2 p3 K x3 M → Wa p l e (rmD 1) s m args below meth c 0 0 (MQ below (va_Qv K (EndW D tc ad) (A0 ad s.heap.size)) args s 0 0 (A0 ad s.heap.size)) D tc ad 4 M 36 [(1, .ref (ad a1)), (2, .ref (ad a2)), (3, .int x3)] [] := by
  intro x3 M  h
  unfold f_X2_pull_L36 at h
  refine ra_aload_n E dX2_pull_36 rfl 1 rfl ?_
  refine gf_X6_5 E h2 fl_X2_125 dX2_pull_37 ?_
  refine ra_if_eq (tgt := 72) E dX2_pull_40 (by decide) (fun q2 => ?_) (fun q2 => ?_)
  · replace h := h.1 q2
    exact ra_vret E hr dX2_pull_72 h
  · replace h := h.2 q2
    refine ra_aload_n E dX2_pull_43 rfl 1 rfl ?_
    refine ra_dup E dX2_pull_44 rfl ?_
    refine gf_X6_3 E h2 fl_X2_254 dX2_pull_45 ?_
    refine ra_iconst E dX2_pull_48 ki_1 ?_
    refine ra_isub E dX2_pull_49 ?_
    refine pf_X6_3 E h2 fl_X2_254 dX2_pull_50 ?_
    replace h := h _ rfl
    refine ra_aload_n E dX2_pull_53 rfl 1 rfl ?_
    refine gf_X6_3 E h2 fl_X2_254 dX2_pull_54 ?_
    refine ra_if_ne (tgt := 72) E dX2_pull_57 (by decide) (fun q4 => ?_) (fun q4 => ?_)
    · replace h := h.1 q4
      exact ra_vret E hr dX2_pull_72 h
    · replace h := h.2 q4
      refine ra_aload_n E dX2_pull_60 rfl 1 rfl ?_
      refine gs_O (i := 2) E 2 (by decide) rfl (by decide) fl_X2_257 dX2_pull_61 ?_
      refine pf_X6_6 E h2 _ rfl fl_X2_132 dX2_pull_64 ?_
      replace h := h _ rfl
      refine ra_aload_n E dX2_pull_67 rfl 0 rfl ?_
      refine ra_iload_n E dX2_pull_68 rfl 2 rfl ?_
      refine ra_callVV (rest := []) E (c_X1_unqueue _ h1 _ _ _ h) (lq_X1 _) cv_X1_unqueue ml_X2_216 (by decide) (lm (Nat.lt_of_succ_lt h1.lt)) (fun R => ⟨_, cel_barge tc ad h1 R⟩) rfl rfl rfl (Nat.le_of_ble_eq_true rfl) ⟨Nat.le_of_ble_eq_true rfl, Nat.le_of_ble_eq_true rfl⟩ ⟨Nat.zero_le _, Nat.zero_le _⟩ dX2_pull_69 (fun M6 h => ?_)
      exact ra_vret E hr dX2_pull_72 h
def f_X2_pull (a0 : Nat) (a1 : Nat) (a2 : Nat) (p3 : Int32) (M : TM) (K : TM → Prop) : Prop := ((¬ (bz (M a2 5)) = 0 → f_X2_pull_L36 a0 a1 a2 p3 K p3 M) ∧ ((bz (M a2 5)) = 0 → (((M a1 4) < (M a2 1) → f_X2_pull_L36 a0 a1 a2 p3 K p3 M) ∧ (¬ (M a1 4) < (M a2 1) → ∀ M8, M8 = u2 M a1 4 ((M a1 4) - (M a2 1)) → ∀ M9, M9 = u2 M8 a2 5 (1 : Int32) → f_X2_pull_L36 a0 a1 a2 p3 K p3 M9))))
set_option maxRecDepth 100000 in
set_option maxHeartbeats 4000000 in
theorem c_X2_pull {ad : Nat → Nat} (a0 : Nat) (h0 : IsCanal a0) (a1 : Nat) (h1 : IsBarge a1) (a2 : Nat) (h2 : IsOrder a2) (p3 : Int32) (M : TM) (K : TM → Prop) (h : f_X2_pull a0 a1 a2 p3 M K) : MV yX2_pull cX2_pull 4 1 ad [.ref (ad a0), .ref (ad a1), .ref (ad a2), .int p3] M K := by
  refine MV_of RX2 rfl (by decide +kernel) (Nat.le_of_ble_eq_true rfl) (fun p l e s m below meth c D tc E hr => ?_)
  unfold f_X2_pull at h
  refine ra_aload_n E dX2_pull_0 rfl 2 rfl ?_
  refine gf_X6_5 E h2 fl_X2_125 dX2_pull_1 ?_
  refine ra_if_ne (tgt := 36) E dX2_pull_4 (by decide) (fun q1 => ?_) (fun q1 => ?_)
  · replace h := h.1 q1
    exact ra_sub (L' := [(1, _), (2, _), (3, _)]) [1, 2, 3] rfl (l_X2_pull_L36 a0 h0 a1 h1 a2 h2 p3 E hr _ _ h)
  · replace h := h.2 q1
    refine ra_aload_n E dX2_pull_7 rfl 1 rfl ?_
    refine gf_X1_4 E h1 fl_X2_222 dX2_pull_8 ?_
    refine ra_aload_n E dX2_pull_11 rfl 2 rfl ?_
    refine gf_X6_1 E h2 fl_X2_129 dX2_pull_12 ?_
    refine ra_icmp_lt (tgt := 36) E dX2_pull_15 (by decide) (fun q7 => ?_) (fun q7 => ?_)
    · replace h := h.1 q7
      exact ra_sub (L' := [(1, _), (2, _), (3, _)]) [1, 2, 3] rfl (l_X2_pull_L36 a0 h0 a1 h1 a2 h2 p3 E hr _ _ h)
    · replace h := h.2 q7
      refine ra_aload_n E dX2_pull_18 rfl 1 rfl ?_
      refine ra_dup E dX2_pull_19 rfl ?_
      refine gf_X1_4 E h1 fl_X2_222 dX2_pull_20 ?_
      refine ra_aload_n E dX2_pull_23 rfl 2 rfl ?_
      refine gf_X6_1 E h2 fl_X2_129 dX2_pull_24 ?_
      refine ra_isub E dX2_pull_27 ?_
      refine pf_X1_4 E h1 fl_X2_222 dX2_pull_28 ?_
      replace h := h _ rfl
      refine ra_aload_n E dX2_pull_31 rfl 2 rfl ?_
      refine ra_iconst E dX2_pull_32 ki_1 ?_
      refine pf_X6_5 E h2 fl_X2_125 (by decide) dX2_pull_33 ?_
      replace h := h _ rfl
      exact ra_sub (L' := [(1, _), (2, _), (3, _)]) [1, 2, 3] rfl (l_X2_pull_L36 a0 h0 a1 h1 a2 h2 p3 E hr _ _ h)
def f_X2_signOfPlace (a0 : Nat) (p1 : Int32) (M : TM) (K : Int32 → TM → Prop) : Prop := f_X2_countBargesAt a0 p1 M (fun r2 M1 => ((¬ r2 = 0 → K ((((48 : Int32) + r2).toUInt32 % 65536).toInt32) M1) ∧ (r2 = 0 → K (46 : Int32) M1)))
set_option maxRecDepth 100000 in
set_option maxHeartbeats 4000000 in
theorem c_X2_signOfPlace {ad : Nat → Nat} (a0 : Nat) (h0 : IsCanal a0) (p1 : Int32) (M : TM) (K : Int32 → TM → Prop) (h : f_X2_signOfPlace a0 p1 M K) : MI yX2_signOfPlace cX2_signOfPlace 3 (some .char) 2 ad [.ref (ad a0), .int p1] M (fun r M' => narrow .char (.int r) = .int r ∧ K r M') := by
  refine MI_of RX2 rfl (by decide +kernel) (Nat.le_of_ble_eq_true rfl) (fun p l e s m below meth c D tc E hr => ?_)
  unfold f_X2_signOfPlace at h
  refine ra_aload_n E dX2_signOfPlace_0 rfl 0 rfl ?_
  refine ra_iload_n E dX2_signOfPlace_1 rfl 1 rfl ?_
  refine ra_callIV (rest := []) E (c_X2_countBargesAt _ h0 _ _ _ h) (lq_X2 _) cv_X2_countBargesAt ml_X2_274 (by decide) (lm (h0.add (j := 0) (by decide))) (fun R => ⟨_, cel_canal tc ad h0 R⟩) rfl rfl rfl (Nat.le_of_ble_eq_true rfl) ⟨Nat.le_of_ble_eq_true rfl, Nat.le_of_ble_eq_true rfl⟩ ⟨Nat.zero_le _, Nat.zero_le _⟩ dX2_signOfPlace_2 (fun r2 M1 h => ?_)
  refine ra_istore_n (L' := [(2, _), (0, _), (1, _)]) E dX2_signOfPlace_5 rfl (by decide) rfl ?_
  refine ra_iload_n E dX2_signOfPlace_6 rfl 0 rfl ?_
  refine ra_if_ne (tgt := 15) E dX2_signOfPlace_7 (by decide) (fun q3 => ?_) (fun q3 => ?_)
  · replace h := h.1 q3
    refine ra_bipush E dX2_signOfPlace_15 kb_48 ?_
    refine ra_iload_n E dX2_signOfPlace_17 rfl 0 rfl ?_
    refine ra_iadd E dX2_signOfPlace_18 ?_
    refine ra_i2c E dX2_signOfPlace_19 rfl ?_
    exact ra_zret E hr (pk_nc _) dX2_signOfPlace_20 ⟨pk_nc _, h⟩
  · replace h := h.2 q3
    refine ra_bipush E dX2_signOfPlace_10 kb_46 ?_
    refine ra_goto (tgt := 20) E dX2_signOfPlace_12 (by decide) ?_
    exact ra_zret E hr (by decide) dX2_signOfPlace_20 ⟨by decide, h⟩
def f_X2_signOfSection (a0 : Nat) (p1 : Int32) (M : TM) (K : Int32 → TM → Prop) : Prop := f_X2_hasSection a0 p1 M (fun r2 M1 => ((r2 = 0 → K (45 : Int32) M1) ∧ (¬ r2 = 0 → vp_in p1 15 ∧ ((¬ (M1 (a0 + 6 + p1.toNatClampNeg) 0) = 0 → vp_in p1 15 ∧ ((¬ (M1 (a0 + 6 + p1.toNatClampNeg) 2) = (-1 : Int32) → K (61 : Int32) M1) ∧ ((M1 (a0 + 6 + p1.toNatClampNeg) 2) = (-1 : Int32) → K (124 : Int32) M1))) ∧ ((M1 (a0 + 6 + p1.toNatClampNeg) 0) = 0 → K (45 : Int32) M1)))))
set_option maxRecDepth 100000 in
set_option maxHeartbeats 4000000 in
theorem c_X2_signOfSection {ad : Nat → Nat} (a0 : Nat) (h0 : IsCanal a0) (p1 : Int32) (M : TM) (K : Int32 → TM → Prop) (h : f_X2_signOfSection a0 p1 M K) : MI yX2_signOfSection cX2_signOfSection 2 (some .char) 1 ad [.ref (ad a0), .int p1] M (fun r M' => narrow .char (.int r) = .int r ∧ K r M') := by
  refine MI_of RX2 rfl (by decide +kernel) (Nat.le_of_ble_eq_true rfl) (fun p l e s m below meth c D tc E hr => ?_)
  unfold f_X2_signOfSection at h
  refine ra_aload_n E dX2_signOfSection_0 rfl 0 rfl ?_
  refine ra_iload_n E dX2_signOfSection_1 rfl 1 rfl ?_
  refine ra_callIV (rest := []) E (c_X2_hasSection _ h0 _ _ _ h) (lq_X2 _) cv_X2_hasSection ml_X2_182 (by decide) (lm (h0.add (j := 0) (by decide))) (fun R => ⟨_, cel_canal tc ad h0 R⟩) rfl rfl rfl (Nat.le_of_ble_eq_true rfl) ⟨Nat.le_of_ble_eq_true rfl, Nat.le_of_ble_eq_true rfl⟩ ⟨Nat.zero_le _, Nat.zero_le _⟩ dX2_signOfSection_2 (fun r2 M1 h => ?_)
  obtain ⟨b3, h⟩ := h
  refine ra_if_eq (tgt := 20) E dX2_signOfSection_5 (by decide) (fun q4 => ?_) (fun q4 => ?_)
  · replace h := h.1 q4
    refine ra_bipush E dX2_signOfSection_20 kb_45 ?_
    exact ra_zret E hr (by decide) dX2_signOfSection_22 ⟨by decide, h⟩
  · replace h := h.2 q4
    refine ra_aload_n E dX2_signOfSection_8 rfl 0 rfl ?_
    refine gf_X2_1 E h0 fl_X2_17 dX2_signOfSection_9 ?_
    refine ra_iload_n E dX2_signOfSection_12 rfl 1 rfl ?_
    obtain ⟨g5, h⟩ := h
    refine ra_aald E (lm (h0.add (by decide))) (cel_secs tc ad h0) rfl g5 dX2_signOfSection_13 ?_
    refine gf_X9_0 E (isSec_of h0 g5) fl_X2_191 dX2_signOfSection_14 ?_
    refine ra_if_ne (tgt := 23) E dX2_signOfSection_17 (by decide) (fun q6 => ?_) (fun q6 => ?_)
    · replace h := h.1 q6
      refine ra_aload_n E dX2_signOfSection_23 rfl 0 rfl ?_
      refine gf_X2_1 E h0 fl_X2_17 dX2_signOfSection_24 ?_
      refine ra_iload_n E dX2_signOfSection_27 rfl 1 rfl ?_
      obtain ⟨g7, h⟩ := h
      refine ra_aald E (lm (h0.add (by decide))) (cel_secs tc ad h0) rfl g7 dX2_signOfSection_28 ?_
      refine gf_X9_2 E (isSec_of h0 g7) fl_X2_247 dX2_signOfSection_29 ?_
      refine ra_iconst E dX2_signOfSection_32 ki_m1 ?_
      refine ra_icmp_ne (tgt := 41) E dX2_signOfSection_33 (by decide) (fun q8 => ?_) (fun q8 => ?_)
      · replace h := h.1 q8
        refine ra_bipush E dX2_signOfSection_41 kb_61 ?_
        exact ra_zret E hr (by decide) dX2_signOfSection_43 ⟨by decide, h⟩
      · replace h := h.2 q8
        refine ra_bipush E dX2_signOfSection_36 kb_124 ?_
        refine ra_goto (tgt := 43) E dX2_signOfSection_38 (by decide) ?_
        exact ra_zret E hr (by decide) dX2_signOfSection_43 ⟨by decide, h⟩
    · replace h := h.2 q6
      refine ra_bipush E dX2_signOfSection_20 kb_45 ?_
      exact ra_zret E hr (by decide) dX2_signOfSection_22 ⟨by decide, h⟩
def f_X5_clear  (M : TM) (K : TM → Prop) : Prop := ∀ M1, M1 = u2 M 25 2 (0 : Int32) → K M1
set_option maxRecDepth 100000 in
set_option maxHeartbeats 4000000 in
theorem c_X5_clear {ad : Nat → Nat}  (M : TM) (K : TM → Prop) (h : f_X5_clear  M K) : MV yX5_clear cX5_clear 1 0 ad [.ref (ad 25)] M K := by
  refine MV_of RX5 rfl (by decide +kernel) (Nat.le_of_ble_eq_true rfl) (fun p l e s m below meth c D tc E hr => ?_)
  unfold f_X5_clear at h
  refine ra_aload_n E dX5_clear_0 rfl 0 rfl ?_
  refine ra_iconst E dX5_clear_1 ki_0 ?_
  refine pf_X5_2 E fl_X5_21 dX5_clear_2 ?_
  replace h := h _ rfl
  exact ra_vret E hr dX5_clear_5 h
def f_X6_copyFrom (a0 : Nat) (a1 : Nat) (M : TM) (K : TM → Prop) : Prop := ∀ M1, M1 = u2 M a0 0 (M a1 0) → ∀ M2, M2 = u2 M1 a0 1 (M1 a1 1) → ∀ M3, M3 = u2 M2 a0 2 (M2 a1 2) → ∀ M4, M4 = u2 M3 a0 3 (M3 a1 3) → ∀ M5, M5 = u2 M4 a0 4 (M4 a1 4) → ∀ M6, M6 = u2 M5 a0 5 (bz (M5 a1 5)) → ∀ M7, M7 = u2 M6 a0 6 (M6 a1 6) → ∀ M8, M8 = u2 M7 a0 7 (M7 a1 7) → K M8
set_option maxRecDepth 100000 in
set_option maxHeartbeats 4000000 in
theorem c_X6_copyFrom {ad : Nat → Nat} (a0 : Nat) (h0 : IsOrder a0) (a1 : Nat) (h1 : IsOrder a1) (M : TM) (K : TM → Prop) (h : f_X6_copyFrom a0 a1 M K) : MV yX6_copyFrom cX6_copyFrom 2 0 ad [.ref (ad a0), .ref (ad a1)] M K := by
  refine MV_of RX6 rfl (by decide +kernel) (Nat.le_of_ble_eq_true rfl) (fun p l e s m below meth c D tc E hr => ?_)
  unfold f_X6_copyFrom at h
  refine ra_aload_n E dX6_copyFrom_0 rfl 0 rfl ?_
  refine ra_aload_n E dX6_copyFrom_1 rfl 1 rfl ?_
  refine gf_X6_0 E h1 fl_X6_9 dX6_copyFrom_2 ?_
  refine pf_X6_0 E h0 fl_X6_9 dX6_copyFrom_5 ?_
  replace h := h _ rfl
  refine ra_aload_n E dX6_copyFrom_8 rfl 0 rfl ?_
  refine ra_aload_n E dX6_copyFrom_9 rfl 1 rfl ?_
  refine gf_X6_1 E h1 fl_X6_15 dX6_copyFrom_10 ?_
  refine pf_X6_1 E h0 fl_X6_15 dX6_copyFrom_13 ?_
  replace h := h _ rfl
  refine ra_aload_n E dX6_copyFrom_16 rfl 0 rfl ?_
  refine ra_aload_n E dX6_copyFrom_17 rfl 1 rfl ?_
  refine gf_X6_2 E h1 fl_X6_18 dX6_copyFrom_18 ?_
  refine pf_X6_2 E h0 fl_X6_18 dX6_copyFrom_21 ?_
  replace h := h _ rfl
  refine ra_aload_n E dX6_copyFrom_24 rfl 0 rfl ?_
  refine ra_aload_n E dX6_copyFrom_25 rfl 1 rfl ?_
  refine gf_X6_3 E h1 fl_X6_21 dX6_copyFrom_26 ?_
  refine pf_X6_3 E h0 fl_X6_21 dX6_copyFrom_29 ?_
  replace h := h _ rfl
  refine ra_aload_n E dX6_copyFrom_32 rfl 0 rfl ?_
  refine ra_aload_n E dX6_copyFrom_33 rfl 1 rfl ?_
  refine gf_X6_4 E h1 fl_X6_24 dX6_copyFrom_34 ?_
  refine pf_X6_4 E h0 fl_X6_24 dX6_copyFrom_37 ?_
  replace h := h _ rfl
  refine ra_aload_n E dX6_copyFrom_40 rfl 0 rfl ?_
  refine ra_aload_n E dX6_copyFrom_41 rfl 1 rfl ?_
  refine gf_X6_5 E h1 fl_X6_27 dX6_copyFrom_42 ?_
  refine pf_X6_5 E h0 fl_X6_27 (bz_bz _) dX6_copyFrom_45 ?_
  replace h := h _ rfl
  refine ra_aload_n E dX6_copyFrom_48 rfl 0 rfl ?_
  refine ra_aload_n E dX6_copyFrom_49 rfl 1 rfl ?_
  refine gf_X6_6 E h1 fl_X6_37 dX6_copyFrom_50 ?_
  refine pf_X6_6 E h0 _ rfl fl_X6_37 dX6_copyFrom_53 ?_
  replace h := h _ rfl
  refine ra_aload_n E dX6_copyFrom_56 rfl 0 rfl ?_
  refine ra_aload_n E dX6_copyFrom_57 rfl 1 rfl ?_
  refine gf_X6_7 E h1 fl_X6_40 dX6_copyFrom_58 ?_
  refine pf_X6_7 E h0 fl_X6_40 dX6_copyFrom_61 ?_
  replace h := h _ rfl
  exact ra_vret E hr dX6_copyFrom_64 h
