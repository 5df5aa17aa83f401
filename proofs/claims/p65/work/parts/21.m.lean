def f_X6_open (a0 : Nat) (M : TM) (K : TM → Prop) : Prop := ∀ M1, M1 = u2 M a0 6 (0 : Int32) → ∀ M2, M2 = u2 M1 a0 7 (-1 : Int32) → ∀ M3, M3 = u2 M2 a0 5 (0 : Int32) → ∀ M4, M4 = u2 M3 a0 3 (M3 a0 2) → K M4
set_option maxRecDepth 100000 in
set_option maxHeartbeats 4000000 in
theorem c_X6_open {ad : Nat → Nat} (a0 : Nat) (h0 : IsOrder a0) (M : TM) (K : TM → Prop) (h : f_X6_open a0 M K) : MV yX6_open cX6_open 1 0 ad [.ref (ad a0)] M K := by
  refine MV_of RX6 rfl (by decide +kernel) (Nat.le_of_ble_eq_true rfl) (fun p l e s m below meth c D tc E hr => ?_)
  unfold f_X6_open at h
  refine ra_aload_n E dX6_open_0 rfl 0 rfl ?_
  refine gs_O (i := 0) E 0 (by decide) rfl (by decide) fl_X6_31 dX6_open_1 ?_
  refine pf_X6_6 E h0 _ rfl fl_X6_37 dX6_open_4 ?_
  replace h := h _ rfl
  refine ra_aload_n E dX6_open_7 rfl 0 rfl ?_
  refine ra_iconst E dX6_open_8 ki_m1 ?_
  refine pf_X6_7 E h0 fl_X6_40 dX6_open_9 ?_
  replace h := h _ rfl
  refine ra_aload_n E dX6_open_12 rfl 0 rfl ?_
  refine ra_iconst E dX6_open_13 ki_0 ?_
  refine pf_X6_5 E h0 fl_X6_27 (by decide) dX6_open_14 ?_
  replace h := h _ rfl
  refine ra_aload_n E dX6_open_17 rfl 0 rfl ?_
  refine ra_aload_n E dX6_open_18 rfl 0 rfl ?_
  refine gf_X6_2 E h0 fl_X6_18 dX6_open_19 ?_
  refine pf_X6_3 E h0 fl_X6_21 dX6_open_22 ?_
  replace h := h _ rfl
  exact ra_vret E hr dX6_open_25 h
def f_X6_finish (a0 : Nat) (p1 : Int32) (M : TM) (K : TM → Prop) : Prop := ∀ M1, M1 = u2 M a0 6 p1 → ∀ M2, M2 = u2 M1 a0 7 (-1 : Int32) → K M2
set_option maxRecDepth 100000 in
set_option maxHeartbeats 4000000 in
theorem c_X6_finish {ad : Nat → Nat} (a0 : Nat) (h0 : IsOrder a0) (p1 : Int32) (M : TM) (K : TM → Prop) (h : f_X6_finish a0 p1 M K) : MV yX6_finish cX6_finish 2 0 ad [.ref (ad a0), .ref (ad (2000 + p1.toNatClampNeg))] M K := by
  refine MV_of RX6 rfl (by decide +kernel) (Nat.le_of_ble_eq_true rfl) (fun p l e s m below meth c D tc E hr => ?_)
  unfold f_X6_finish at h
  refine ra_aload_n E dX6_finish_0 rfl 0 rfl ?_
  refine ra_aload_n E dX6_finish_1 rfl 1 rfl ?_
  refine pf_X6_6 E h0 _ rfl fl_X6_37 dX6_finish_2 ?_
  replace h := h _ rfl
  refine ra_aload_n E dX6_finish_5 rfl 0 rfl ?_
  refine ra_iconst E dX6_finish_6 ki_m1 ?_
  refine pf_X6_7 E h0 fl_X6_40 dX6_finish_7 ?_
  replace h := h _ rfl
  exact ra_vret E hr dX6_finish_10 h
def f_X6_isHeld (a0 : Nat) (M : TM) (K : Int32 → TM → Prop) : Prop := vp_in (M a0 6) 5 ∧ (((M a0 6) = (1 : Int32) → K (1 : Int32) M) ∧ (¬ (M a0 6) = (1 : Int32) → vp_in (M a0 6) 5 ∧ ((¬ (M a0 6) = (2 : Int32) → K (0 : Int32) M) ∧ ((M a0 6) = (2 : Int32) → K (1 : Int32) M))))
set_option maxRecDepth 100000 in
set_option maxHeartbeats 4000000 in
theorem c_X6_isHeld {ad : Nat → Nat} (a0 : Nat) (h0 : IsOrder a0) (M : TM) (K : Int32 → TM → Prop) (h : f_X6_isHeld a0 M K) : MI yX6_isHeld cX6_isHeld 1 (some .boolean) 0 ad [.ref (ad a0)] M (fun r M' => (r = 0 ∨ r = 1) ∧ K r M') := by
  refine MI_of RX6 rfl (by decide +kernel) (Nat.le_of_ble_eq_true rfl) (fun p l e s m below meth c D tc E hr => ?_)
  unfold f_X6_isHeld at h
  refine ra_aload_n E dX6_isHeld_0 rfl 0 rfl ?_
  refine gf_X6_6 E h0 fl_X6_37 dX6_isHeld_1 ?_
  refine gs_O (i := 1) E 1 (by decide) rfl (by decide) fl_X6_46 dX6_isHeld_4 ?_
  obtain ⟨g2, h⟩ := h
  refine acmpO_eq (tgt := 20) E g2 (vpl _ _ (by decide)) dX6_isHeld_7 (by decide) (fun q1 => ?_) (fun q1 => ?_)
  · replace h := h.1 q1
    refine ra_iconst E dX6_isHeld_20 ki_1 ?_
    refine ra_goto (tgt := 25) E dX6_isHeld_21 (by decide) ?_
    exact ra_zret E hr rfl dX6_isHeld_25 ⟨Or.inr rfl, h⟩
  · replace h := h.2 q1
    refine ra_aload_n E dX6_isHeld_10 rfl 0 rfl ?_
    refine gf_X6_6 E h0 fl_X6_37 dX6_isHeld_11 ?_
    refine gs_O (i := 2) E 2 (by decide) rfl (by decide) fl_X6_49 dX6_isHeld_14 ?_
    obtain ⟨g4, h⟩ := h
    refine acmpO_ne (tgt := 24) E g4 (vpl _ _ (by decide)) dX6_isHeld_17 (by decide) (fun q3 => ?_) (fun q3 => ?_)
    · replace h := h.1 q3
      refine ra_iconst E dX6_isHeld_24 ki_0 ?_
      exact ra_zret E hr rfl dX6_isHeld_25 ⟨Or.inl rfl, h⟩
    · replace h := h.2 q3
      refine ra_iconst E dX6_isHeld_20 ki_1 ?_
      refine ra_goto (tgt := 25) E dX6_isHeld_21 (by decide) ?_
      exact ra_zret E hr rfl dX6_isHeld_25 ⟨Or.inr rfl, h⟩
def f_X6_canStillBeEaten (a0 : Nat) (M : TM) (K : Int32 → TM → Prop) : Prop := vp_in (M a0 6) 5 ∧ (((M a0 6) = (0 : Int32) → K (1 : Int32) M) ∧ (¬ (M a0 6) = (0 : Int32) → f_X6_isHeld a0 M (fun r4 M3 => ((r4 = 0 → K (0 : Int32) M3) ∧ (¬ r4 = 0 → K (1 : Int32) M3)))))
set_option maxRecDepth 100000 in
set_option maxHeartbeats 4000000 in
theorem c_X6_canStillBeEaten {ad : Nat → Nat} (a0 : Nat) (h0 : IsOrder a0) (M : TM) (K : Int32 → TM → Prop) (h : f_X6_canStillBeEaten a0 M K) : MI yX6_canStillBeEaten cX6_canStillBeEaten 1 (some .boolean) 1 ad [.ref (ad a0)] M (fun r M' => (r = 0 ∨ r = 1) ∧ K r M') := by
  refine MI_of RX6 rfl (by decide +kernel) (Nat.le_of_ble_eq_true rfl) (fun p l e s m below meth c D tc E hr => ?_)
  unfold f_X6_canStillBeEaten at h
  refine ra_aload_n E dX6_canStillBeEaten_0 rfl 0 rfl ?_
  refine gf_X6_6 E h0 fl_X6_37 dX6_canStillBeEaten_1 ?_
  refine gs_O (i := 0) E 0 (by decide) rfl (by decide) fl_X6_31 dX6_canStillBeEaten_4 ?_
  obtain ⟨g2, h⟩ := h
  refine acmpO_eq (tgt := 17) E g2 (vpl _ _ (by decide)) dX6_canStillBeEaten_7 (by decide) (fun q1 => ?_) (fun q1 => ?_)
  · replace h := h.1 q1
    refine ra_iconst E dX6_canStillBeEaten_17 ki_1 ?_
    refine ra_goto (tgt := 22) E dX6_canStillBeEaten_18 (by decide) ?_
    exact ra_zret E hr rfl dX6_canStillBeEaten_22 ⟨Or.inr rfl, h⟩
  · replace h := h.2 q1
    refine ra_aload_n E dX6_canStillBeEaten_10 rfl 0 rfl ?_
    refine ra_callIV (rest := []) E (c_X6_isHeld _ h0 _ _ h) (lq_X6 _) cv_X6_isHeld ml_X6_52 (by decide) (lm h0.lt) (fun R => ⟨_, cel_order tc ad h0 R⟩) rfl rfl rfl (Nat.le_of_ble_eq_true rfl) ⟨Nat.le_of_ble_eq_true rfl, Nat.le_of_ble_eq_true rfl⟩ ⟨Nat.zero_le _, Nat.zero_le _⟩ dX6_canStillBeEaten_11 (fun r4 M3 h => ?_)
    obtain ⟨b5, h⟩ := h
    refine ra_if_eq (tgt := 21) E dX6_canStillBeEaten_14 (by decide) (fun q6 => ?_) (fun q6 => ?_)
    · replace h := h.1 q6
      refine ra_iconst E dX6_canStillBeEaten_21 ki_0 ?_
      exact ra_zret E hr rfl dX6_canStillBeEaten_22 ⟨Or.inl rfl, h⟩
    · replace h := h.2 q6
      refine ra_iconst E dX6_canStillBeEaten_17 ki_1 ?_
      refine ra_goto (tgt := 22) E dX6_canStillBeEaten_18 (by decide) ?_
      exact ra_zret E hr rfl dX6_canStillBeEaten_22 ⟨Or.inr rfl, h⟩
def f_X6_worth (a0 : Nat) (M : TM) (K : Int32 → TM → Prop) : Prop := K ((M a0 1) * ((3 : Int32) + (M a0 2))) M
set_option maxRecDepth 100000 in
set_option maxHeartbeats 4000000 in
theorem c_X6_worth {ad : Nat → Nat} (a0 : Nat) (h0 : IsOrder a0) (M : TM) (K : Int32 → TM → Prop) (h : f_X6_worth a0 M K) : MI yX6_worth cX6_worth 1 (some .int) 0 ad [.ref (ad a0)] M K := by
  refine MI_of RX6 rfl (by decide +kernel) (Nat.le_of_ble_eq_true rfl) (fun p l e s m below meth c D tc E hr => ?_)
  unfold f_X6_worth at h
  refine ra_aload_n E dX6_worth_0 rfl 0 rfl ?_
  refine gf_X6_1 E h0 fl_X6_15 dX6_worth_1 ?_
  refine ra_iconst E dX6_worth_4 ki_3 ?_
  refine ra_aload_n E dX6_worth_5 rfl 0 rfl ?_
  refine gf_X6_2 E h0 fl_X6_18 dX6_worth_6 ?_
  refine ra_iadd E dX6_worth_9 ?_
  refine ra_imul E dX6_worth_10 ?_
  exact ra_iret E hr dX6_worth_11 h
def f_X9_clear (a0 : Nat) (M : TM) (K : TM → Prop) : Prop := ∀ M1, M1 = u2 M a0 0 (0 : Int32) → ∀ M2, M2 = u2 M1 a0 1 (0 : Int32) → ∀ M3, M3 = u2 M2 a0 2 (-1 : Int32) → K M3
set_option maxRecDepth 100000 in
set_option maxHeartbeats 4000000 in
theorem c_X9_clear {ad : Nat → Nat} (a0 : Nat) (h0 : IsSec a0) (M : TM) (K : TM → Prop) (h : f_X9_clear a0 M K) : MV yX9_clear cX9_clear 1 0 ad [.ref (ad a0)] M K := by
  refine MV_of RX9 rfl (by decide +kernel) (Nat.le_of_ble_eq_true rfl) (fun p l e s m below meth c D tc E hr => ?_)
  unfold f_X9_clear at h
  refine ra_aload_n E dX9_clear_0 rfl 0 rfl ?_
  refine ra_iconst E dX9_clear_1 ki_0 ?_
  refine pf_X9_0 E h0 fl_X9_9 dX9_clear_2 ?_
  replace h := h _ rfl
  refine ra_aload_n E dX9_clear_5 rfl 0 rfl ?_
  refine ra_iconst E dX9_clear_6 ki_0 ?_
  refine pf_X9_1 E h0 fl_X9_15 dX9_clear_7 ?_
  replace h := h _ rfl
  refine ra_aload_n E dX9_clear_10 rfl 0 rfl ?_
  refine ra_iconst E dX9_clear_11 ki_m1 ?_
  refine pf_X9_2 E h0 fl_X9_18 dX9_clear_12 ?_
  replace h := h _ rfl
  exact ra_vret E hr dX9_clear_15 h
def f_X9_copyFrom (a0 : Nat) (a1 : Nat) (M : TM) (K : TM → Prop) : Prop := ∀ M1, M1 = u2 M a0 0 (M a1 0) → ∀ M2, M2 = u2 M1 a0 1 (M1 a1 1) → ∀ M3, M3 = u2 M2 a0 2 (M2 a1 2) → K M3
set_option maxRecDepth 100000 in
set_option maxHeartbeats 4000000 in
theorem c_X9_copyFrom {ad : Nat → Nat} (a0 : Nat) (h0 : IsSec a0) (a1 : Nat) (h1 : IsSec a1) (M : TM) (K : TM → Prop) (h : f_X9_copyFrom a0 a1 M K) : MV yX9_copyFrom cX9_copyFrom 2 0 ad [.ref (ad a0), .ref (ad a1)] M K := by
  refine MV_of RX9 rfl (by decide +kernel) (Nat.le_of_ble_eq_true rfl) (fun p l e s m below meth c D tc E hr => ?_)
  unfold f_X9_copyFrom at h
  refine ra_aload_n E dX9_copyFrom_0 rfl 0 rfl ?_
  refine ra_aload_n E dX9_copyFrom_1 rfl 1 rfl ?_
  refine gf_X9_0 E h1 fl_X9_9 dX9_copyFrom_2 ?_
  refine pf_X9_0 E h0 fl_X9_9 dX9_copyFrom_5 ?_
  replace h := h _ rfl
  refine ra_aload_n E dX9_copyFrom_8 rfl 0 rfl ?_
  refine ra_aload_n E dX9_copyFrom_9 rfl 1 rfl ?_
  refine gf_X9_1 E h1 fl_X9_15 dX9_copyFrom_10 ?_
  refine pf_X9_1 E h0 fl_X9_15 dX9_copyFrom_13 ?_
  replace h := h _ rfl
  refine ra_aload_n E dX9_copyFrom_16 rfl 0 rfl ?_
  refine ra_aload_n E dX9_copyFrom_17 rfl 1 rfl ?_
  refine gf_X9_2 E h1 fl_X9_18 dX9_copyFrom_18 ?_
  refine pf_X9_2 E h0 fl_X9_18 dX9_copyFrom_21 ?_
  replace h := h _ rfl
  exact ra_vret E hr dX9_copyFrom_24 h
def f_X10_hasRoomFor (p1 : Int32) (M : TM) (K : Int32 → TM → Prop) : Prop := (((500 : Int32) < ((M 1 1) + p1) → K (0 : Int32) M) ∧ (¬ (500 : Int32) < ((M 1 1) + p1) → K (1 : Int32) M))
set_option maxRecDepth 100000 in
set_option maxHeartbeats 4000000 in
theorem c_X10_hasRoomFor {ad : Nat → Nat} (p1 : Int32) (M : TM) (K : Int32 → TM → Prop) (h : f_X10_hasRoomFor p1 M K) : MI yX10_hasRoomFor cX10_hasRoomFor 2 (some .boolean) 0 ad [.ref (ad 1), .int p1] M (fun r M' => (r = 0 ∨ r = 1) ∧ K r M') := by
  refine MI_of RX10 rfl (by decide +kernel) (Nat.le_of_ble_eq_true rfl) (fun p l e s m below meth c D tc E hr => ?_)
  unfold f_X10_hasRoomFor at h
  refine ra_aload_n E dX10_hasRoomFor_0 rfl 0 rfl ?_
  refine gf_X10_1 E fl_X10_15 dX10_hasRoomFor_1 ?_
  refine ra_iload_n E dX10_hasRoomFor_4 rfl 1 rfl ?_
  refine ra_iadd E dX10_hasRoomFor_5 ?_
  refine ra_aload_n E dX10_hasRoomFor_6 rfl 0 rfl ?_
  refine gf_X10_0 E fl_X10_9 dX10_hasRoomFor_7 ?_
  refine ra_alen (n := 500) (v := 500) E (lm (by decide)) (fun R => ⟨_, (cel_2 tc ad) R, rfl⟩) rfl (by decide) dX10_hasRoomFor_10 ?_
  refine ra_icmp_gt (tgt := 18) E dX10_hasRoomFor_11 (by decide) (fun q1 => ?_) (fun q1 => ?_)
  · replace h := h.1 q1
    refine ra_iconst E dX10_hasRoomFor_18 ki_0 ?_
    exact ra_zret E hr rfl dX10_hasRoomFor_19 ⟨Or.inl rfl, h⟩
  · replace h := h.2 q1
    refine ra_iconst E dX10_hasRoomFor_14 ki_1 ?_
    refine ra_goto (tgt := 19) E dX10_hasRoomFor_15 (by decide) ?_
    exact ra_zret E hr rfl dX10_hasRoomFor_19 ⟨Or.inr rfl, h⟩
def f_X10_appendByte (p1 : Int32) (M : TM) (K : TM → Prop) : Prop := (((500 : Int32) ≤ (M 1 1) → K M) ∧ (¬ (500 : Int32) ≤ (M 1 1) → vp_in (M 1 1) 500 ∧ ∀ M3, M3 = u2 M 2 (M 1 1).toNatClampNeg (vp_nar .byte (p1.toInt8.toInt32)) → ∀ M4, M4 = u2 M3 1 1 ((M3 1 1) + (1 : Int32)) → K M4))
set_option maxRecDepth 100000 in
set_option maxHeartbeats 4000000 in
theorem c_X10_appendByte {ad : Nat → Nat} (p1 : Int32) (M : TM) (K : TM → Prop) (h : f_X10_appendByte p1 M K) : MV yX10_appendByte cX10_appendByte 2 0 ad [.ref (ad 1), .int p1] M K := by
  refine MV_of RX10 rfl (by decide +kernel) (Nat.le_of_ble_eq_true rfl) (fun p l e s m below meth c D tc E hr => ?_)
  unfold f_X10_appendByte at h
  refine ra_aload_n E dX10_appendByte_0 rfl 0 rfl ?_
  refine gf_X10_1 E fl_X10_15 dX10_appendByte_1 ?_
  refine ra_aload_n E dX10_appendByte_4 rfl 0 rfl ?_
  refine gf_X10_0 E fl_X10_9 dX10_appendByte_5 ?_
  refine ra_alen (n := 500) (v := 500) E (lm (by decide)) (fun R => ⟨_, (cel_2 tc ad) R, rfl⟩) rfl (by decide) dX10_appendByte_8 ?_
  refine ra_icmp_ge (tgt := 33) E dX10_appendByte_9 (by decide) (fun q1 => ?_) (fun q1 => ?_)
  · replace h := h.1 q1
    exact ra_vret E hr dX10_appendByte_33 h
  · replace h := h.2 q1
    refine ra_aload_n E dX10_appendByte_12 rfl 0 rfl ?_
    refine gf_X10_0 E fl_X10_9 dX10_appendByte_13 ?_
    refine ra_aload_n E dX10_appendByte_16 rfl 0 rfl ?_
    refine gf_X10_1 E fl_X10_15 dX10_appendByte_17 ?_
    refine ra_iload_n E dX10_appendByte_20 rfl 1 rfl ?_
    refine ra_i2b E dX10_appendByte_21 rfl ?_
    obtain ⟨g2, h⟩ := h
    refine ra_bast E (lm (by decide)) (cel_2 tc ad) g2 dX10_appendByte_22 ?_
    replace h := h _ rfl
    refine ra_aload_n E dX10_appendByte_23 rfl 0 rfl ?_
    refine ra_dup E dX10_appendByte_24 rfl ?_
    refine gf_X10_1 E fl_X10_15 dX10_appendByte_25 ?_
    refine ra_iconst E dX10_appendByte_28 ki_1 ?_
    refine ra_iadd E dX10_appendByte_29 ?_
    refine pf_X10_1 E fl_X10_15 dX10_appendByte_30 ?_
    replace h := h _ rfl
    exact ra_vret E hr dX10_appendByte_33 h
def f_X10_empty  (M : TM) (K : TM → Prop) : Prop := ∀ M1, M1 = u2 M 1 1 (0 : Int32) → K M1
set_option maxRecDepth 100000 in
set_option maxHeartbeats 4000000 in
theorem c_X10_empty {ad : Nat → Nat}  (M : TM) (K : TM → Prop) (h : f_X10_empty  M K) : MV yX10_empty cX10_empty 1 0 ad [.ref (ad 1)] M K := by
  refine MV_of RX10 rfl (by decide +kernel) (Nat.le_of_ble_eq_true rfl) (fun p l e s m below meth c D tc E hr => ?_)
  unfold f_X10_empty at h
  refine ra_aload_n E dX10_empty_0 rfl 0 rfl ?_
  refine ra_iconst E dX10_empty_1 ki_0 ?_
  refine pf_X10_1 E fl_X10_15 dX10_empty_2 ?_
  replace h := h _ rfl
  exact ra_vret E hr dX10_empty_5 h
def f_X10_failed  (M : TM) (K : Int32 → TM → Prop) : Prop := (((M 1 6) = 0 → K (0 : Int32) M) ∧ (¬ (M 1 6) = 0 → K (1 : Int32) M))
set_option maxRecDepth 100000 in
set_option maxHeartbeats 4000000 in
theorem c_X10_failed {ad : Nat → Nat}  (M : TM) (K : Int32 → TM → Prop) (h : f_X10_failed  M K) : MI yX10_failed cX10_failed 1 (some .boolean) 0 ad [.ref (ad 1)] M (fun r M' => (r = 0 ∨ r = 1) ∧ K r M') := by
  refine MI_of RX10 rfl (by decide +kernel) (Nat.le_of_ble_eq_true rfl) (fun p l e s m below meth c D tc E hr => ?_)
  unfold f_X10_failed at h
  refine ra_aload_n E dX10_failed_0 rfl 0 rfl ?_
  refine gf_X10_6 E fl_X10_31 dX10_failed_1 ?_
  refine ra_if_eq (tgt := 11) E dX10_failed_4 (by decide) (fun q1 => ?_) (fun q1 => ?_)
  · replace h := h.1 q1
    refine ra_iconst E dX10_failed_11 ki_0 ?_
    exact ra_zret E hr rfl dX10_failed_12 ⟨Or.inl rfl, h⟩
  · replace h := h.2 q1
    refine ra_iconst E dX10_failed_7 ki_1 ?_
    refine ra_goto (tgt := 12) E dX10_failed_8 (by decide) ?_
    exact ra_zret E hr rfl dX10_failed_12 ⟨Or.inr rfl, h⟩
def f_X10_failAt (p1 : Int32) (p2 : Int32) (M : TM) (K : TM → Prop) : Prop := ((¬ (M 1 6) = 0 → K M) ∧ ((M 1 6) = 0 → ∀ M2, M2 = u2 M 1 6 p1 → ∀ M3, M3 = u2 M2 1 7 p2 → K M3))
set_option maxRecDepth 100000 in
set_option maxHeartbeats 4000000 in
theorem c_X10_failAt {ad : Nat → Nat} (p1 : Int32) (p2 : Int32) (M : TM) (K : TM → Prop) (h : f_X10_failAt p1 p2 M K) : MV yX10_failAt cX10_failAt 3 0 ad [.ref (ad 1), .int p1, .int p2] M K := by
  refine MV_of RX10 rfl (by decide +kernel) (Nat.le_of_ble_eq_true rfl) (fun p l e s m below meth c D tc E hr => ?_)
  unfold f_X10_failAt at h
  refine ra_aload_n E dX10_failAt_0 rfl 0 rfl ?_
  refine gf_X10_6 E fl_X10_31 dX10_failAt_1 ?_
  refine ra_if_ne (tgt := 17) E dX10_failAt_4 (by decide) (fun q1 => ?_) (fun q1 => ?_)
  · replace h := h.1 q1
    exact ra_vret E hr dX10_failAt_17 h
  · replace h := h.2 q1
    refine ra_aload_n E dX10_failAt_7 rfl 0 rfl ?_
    refine ra_iload_n E dX10_failAt_8 rfl 1 rfl ?_
    refine pf_X10_6 E fl_X10_31 dX10_failAt_9 ?_
    replace h := h _ rfl
    refine ra_aload_n E dX10_failAt_12 rfl 0 rfl ?_
    refine ra_iload_n E dX10_failAt_13 rfl 2 rfl ?_
    refine pf_X10_7 E fl_X10_34 dX10_failAt_14 ?_
    replace h := h _ rfl
    exact ra_vret E hr dX10_failAt_17 h
def f_X10_kindOf_L28 (p0 : Int32) (K : Int32 → TM → Prop) (x0 : Int32) (M : TM) : Prop := ((x0 = 10 → K (2 : Int32) M) ∧ (x0 = 32 → K (2 : Int32) M) ∧ (x0 = 40 → K (6 : Int32) M) ∧ (x0 = 41 → K (7 : Int32) M) ∧ (x0 = 59 → K (5 : Int32) M) ∧ (¬ x0 = 10 → ¬ x0 = 32 → ¬ x0 = 40 → ¬ x0 = 41 → ¬ x0 = 59 → K (1 : Int32) M))
set_option maxRecDepth 100000 in
set_option maxHeartbeats 4000000 in
theorem l_X10_kindOf_L28 {p : Program} {l : Launch} {e : Env} {s : State} {m : MethodId} {args : Array Value} {below : List Frame} {meth : Method} {c : Code} {D : va_G} {tc : Nat → ClassId} {ad : Nat → Nat} (p0 : Int32) {K : Int32 → TM → Prop} (E : Ev p s m args meth c D tc ad RX10 cX10_kindOf 1) (hr : meth.sig.returnType = (some .int)) : ∀ (x0 : Int32) (M : TM) , f_X10_kindOf_L28 p0 K x0 M → Wa p l e (rmD 0) s m args below meth c 0 0 (MQ below (va_Qi K (EndW D tc ad) (A0 ad s.heap.size)) args s 0 0 (A0 ad s.heap.size)) D tc ad 1 M 28 [(0, .int x0)] [] := by
  intro x0 M  h
  unfold f_X10_kindOf_L28 at h
  refine ra_iload_n E dX10_kindOf_28 rfl 0 rfl ?_
  by_cases q3_0 : x0 = 10
  · replace h := h.1 q3_0
    refine ra_lookup (tgt := 80) (off := 51) E dX10_kindOf_29 (by decide) (by rw [q3_0]; decide) (by decide) ?_
    refine ra_iconst E dX10_kindOf_80 ki_2 ?_
    exact ra_iret E hr dX10_kindOf_81 h
  by_cases q3_1 : x0 = 32
  · replace h := h.2.1 q3_1
    refine ra_lookup (tgt := 80) (off := 51) E dX10_kindOf_29 (by decide) (by rw [q3_1]; decide) (by decide) ?_
    refine ra_iconst E dX10_kindOf_80 ki_2 ?_
    exact ra_iret E hr dX10_kindOf_81 h
  by_cases q3_2 : x0 = 40
  · replace h := h.2.2.1 q3_2
    refine ra_lookup (tgt := 84) (off := 55) E dX10_kindOf_29 (by decide) (by rw [q3_2]; decide) (by decide) ?_
    refine ra_bipush E dX10_kindOf_84 kb_6 ?_
    exact ra_iret E hr dX10_kindOf_86 h
  by_cases q3_3 : x0 = 41
  · replace h := h.2.2.2.1 q3_3
    refine ra_lookup (tgt := 87) (off := 58) E dX10_kindOf_29 (by decide) (by rw [q3_3]; decide) (by decide) ?_
    refine ra_bipush E dX10_kindOf_87 kb_7 ?_
    exact ra_iret E hr dX10_kindOf_89 h
  by_cases q3_4 : x0 = 59
  · replace h := h.2.2.2.2.1 q3_4
    refine ra_lookup (tgt := 82) (off := 53) E dX10_kindOf_29 (by decide) (by rw [q3_4]; decide) (by decide) ?_
    refine ra_iconst E dX10_kindOf_82 ki_5 ?_
    exact ra_iret E hr dX10_kindOf_83 h
  replace h := h.2.2.2.2.2 q3_0 q3_1 q3_2 q3_3 q3_4
  refine ra_lookup (tgt := 90) (off := 61) E dX10_kindOf_29 (by decide) (by show Op.lookupswitch.offset [(10, 51), (32, 51), (40, 55), (41, 58), (59, 53)] 61 _ = _; rw [Op.lookupswitch.offset_cons, if_neg (lk_ne q3_0 (by decide)), Op.lookupswitch.offset_cons, if_neg (lk_ne q3_1 (by decide)), Op.lookupswitch.offset_cons, if_neg (lk_ne q3_2 (by decide)), Op.lookupswitch.offset_cons, if_neg (lk_ne q3_3 (by decide)), Op.lookupswitch.offset_cons, if_neg (lk_ne q3_4 (by decide)), Op.lookupswitch.offset_nil]) (by decide) ?_
  refine ra_iconst E dX10_kindOf_90 ki_1 ?_
  exact ra_iret E hr dX10_kindOf_91 h
def f_X10_kindOf_L14 (p0 : Int32) (K : Int32 → TM → Prop) (x0 : Int32) (M : TM) : Prop := ((x0 < (48 : Int32) → f_X10_kindOf_L28 p0 K x0 M) ∧ (¬ x0 < (48 : Int32) → (((57 : Int32) < x0 → f_X10_kindOf_L28 p0 K x0 M) ∧ (¬ (57 : Int32) < x0 → K (4 : Int32) M))))
set_option maxRecDepth 100000 in
set_option maxHeartbeats 4000000 in
theorem l_X10_kindOf_L14 {p : Program} {l : Launch} {e : Env} {s : State} {m : MethodId} {args : Array Value} {below : List Frame} {meth : Method} {c : Code} {D : va_G} {tc : Nat → ClassId} {ad : Nat → Nat} (p0 : Int32) {K : Int32 → TM → Prop} (E : Ev p s m args meth c D tc ad RX10 cX10_kindOf 1) (hr : meth.sig.returnType = (some .int)) : ∀ (x0 : Int32) (M : TM) , f_X10_kindOf_L14 p0 K x0 M → Wa p l e (rmD 0) s m args below meth c 0 0 (MQ below (va_Qi K (EndW D tc ad) (A0 ad s.heap.size)) args s 0 0 (A0 ad s.heap.size)) D tc ad 1 M 14 [(0, .int x0)] [] := by
  intro x0 M  h
  unfold f_X10_kindOf_L14 at h
  refine ra_iload_n E dX10_kindOf_14 rfl 0 rfl ?_
  refine ra_bipush E dX10_kindOf_15 kb_48 ?_
  refine ra_icmp_lt (tgt := 28) E dX10_kindOf_17 (by decide) (fun q2 => ?_) (fun q2 => ?_)
  · replace h := h.1 q2
    exact ra_sub (L' := [(0, _)]) [0] rfl (l_X10_kindOf_L28 p0 E hr _ _ h)
  · replace h := h.2 q2
    refine ra_iload_n E dX10_kindOf_20 rfl 0 rfl ?_
    refine ra_bipush E dX10_kindOf_21 kb_57 ?_
    refine ra_icmp_gt (tgt := 28) E dX10_kindOf_23 (by decide) (fun q4 => ?_) (fun q4 => ?_)
    · replace h := h.1 q4
      exact ra_sub (L' := [(0, _)]) [0] rfl (l_X10_kindOf_L28 p0 E hr _ _ h)
    · replace h := h.2 q4
      refine ra_iconst E dX10_kindOf_26 ki_4 ?_
      exact ra_iret E hr dX10_kindOf_27 h
def f_X10_kindOf (p0 : Int32) (M : TM) (K : Int32 → TM → Prop) : Prop := ((p0 < (97 : Int32) → f_X10_kindOf_L14 p0 K p0 M) ∧ (¬ p0 < (97 : Int32) → (((122 : Int32) < p0 → f_X10_kindOf_L14 p0 K p0 M) ∧ (¬ (122 : Int32) < p0 → K (3 : Int32) M))))
set_option maxRecDepth 100000 in
set_option maxHeartbeats 4000000 in
theorem c_X10_kindOf {ad : Nat → Nat} (p0 : Int32) (M : TM) (K : Int32 → TM → Prop) (h : f_X10_kindOf p0 M K) : MI yX10_kindOf cX10_kindOf 1 (some .int) 0 ad [.int p0] M K := by
  refine MI_of RX10 rfl (by decide +kernel) (Nat.le_of_ble_eq_true rfl) (fun p l e s m below meth c D tc E hr => ?_)
  unfold f_X10_kindOf at h
  refine ra_iload_n E dX10_kindOf_0 rfl 0 rfl ?_
  refine ra_bipush E dX10_kindOf_1 kb_97 ?_
  refine ra_icmp_lt (tgt := 14) E dX10_kindOf_3 (by decide) (fun q1 => ?_) (fun q1 => ?_)
  · replace h := h.1 q1
    exact ra_sub (L' := [(0, _)]) [0] rfl (l_X10_kindOf_L14 p0 E hr _ _ h)
  · replace h := h.2 q1
    refine ra_iload_n E dX10_kindOf_6 rfl 0 rfl ?_
    refine ra_bipush E dX10_kindOf_7 kb_122 ?_
    refine ra_icmp_gt (tgt := 14) E dX10_kindOf_9 (by decide) (fun q5 => ?_) (fun q5 => ?_)
    · replace h := h.1 q5
      exact ra_sub (L' := [(0, _)]) [0] rfl (l_X10_kindOf_L14 p0 E hr _ _ h)
    · replace h := h.2 q5
      refine ra_iconst E dX10_kindOf_12 ki_3 ?_
      exact ra_iret E hr dX10_kindOf_13 h
def f_X10_isAt (p1 : Int32) (M : TM) (K : Int32 → TM → Prop) : Prop := ((¬ (M 1 6) = 0 → K (0 : Int32) M) ∧ ((M 1 6) = 0 → ((¬ (M 1 3) = p1 → K (0 : Int32) M) ∧ ((M 1 3) = p1 → K (1 : Int32) M))))
set_option maxRecDepth 100000 in
set_option maxHeartbeats 4000000 in
theorem c_X10_isAt {ad : Nat → Nat} (p1 : Int32) (M : TM) (K : Int32 → TM → Prop) (h : f_X10_isAt p1 M K) : MI yX10_isAt cX10_isAt 2 (some .boolean) 0 ad [.ref (ad 1), .int p1] M (fun r M' => (r = 0 ∨ r = 1) ∧ K r M') := by
  refine MI_of RX10 rfl (by decide +kernel) (Nat.le_of_ble_eq_true rfl) (fun p l e s m below meth c D tc E hr => ?_)
  unfold f_X10_isAt at h
  refine ra_aload_n E dX10_isAt_0 rfl 0 rfl ?_
  refine gf_X10_6 E fl_X10_31 dX10_isAt_1 ?_
  refine ra_if_ne (tgt := 19) E dX10_isAt_4 (by decide) (fun q1 => ?_) (fun q1 => ?_)
  · replace h := h.1 q1
    refine ra_iconst E dX10_isAt_19 ki_0 ?_
    exact ra_zret E hr rfl dX10_isAt_20 ⟨Or.inl rfl, h⟩
  · replace h := h.2 q1
    refine ra_aload_n E dX10_isAt_7 rfl 0 rfl ?_
    refine gf_X10_3 E fl_X10_22 dX10_isAt_8 ?_
    refine ra_iload_n E dX10_isAt_11 rfl 1 rfl ?_
    refine ra_icmp_ne (tgt := 19) E dX10_isAt_12 (by decide) (fun q2 => ?_) (fun q2 => ?_)
    · replace h := h.1 q2
      refine ra_iconst E dX10_isAt_19 ki_0 ?_
      exact ra_zret E hr rfl dX10_isAt_20 ⟨Or.inl rfl, h⟩
    · replace h := h.2 q2
      refine ra_iconst E dX10_isAt_15 ki_1 ?_
      refine ra_goto (tgt := 20) E dX10_isAt_16 (by decide) ?_
      exact ra_zret E hr rfl dX10_isAt_20 ⟨Or.inr rfl, h⟩
def f_X12_minute  (M : TM) (K : Int32 → TM → Prop) : Prop := vp_in (M 0 5) 11 ∧ K (M (27 + 61 * (M 0 5).toNatClampNeg) 8) M
set_option maxRecDepth 100000 in
set_option maxHeartbeats 4000000 in
theorem c_X12_minute {ad : Nat → Nat}  (M : TM) (K : Int32 → TM → Prop) (h : f_X12_minute  M K) : MI yX12_minute cX12_minute 1 (some .int) 0 ad [.ref (ad 0)] M K := by
  refine MI_of RX12 rfl (by decide +kernel) (Nat.le_of_ble_eq_true rfl) (fun p l e s m below meth c D tc E hr => ?_)
  unfold f_X12_minute at h
  refine ra_aload_n E dX12_minute_0 rfl 0 rfl ?_
  obtain ⟨g1, h⟩ := h
  refine gf_X12_5 E fl_X12_41 dX12_minute_1 ?_
  refine gf_X2_8 E (isCanal_of g1) fl_X12_109 dX12_minute_4 ?_
  exact ra_iret E hr dX12_minute_7 h
def f_X12_placeCount  (M : TM) (K : Int32 → TM → Prop) : Prop := vp_in (M 0 5) 11 ∧ K (M (27 + 61 * (M 0 5).toNatClampNeg) 0) M
set_option maxRecDepth 100000 in
set_option maxHeartbeats 4000000 in
theorem c_X12_placeCount {ad : Nat → Nat}  (M : TM) (K : Int32 → TM → Prop) (h : f_X12_placeCount  M K) : MI yX12_placeCount cX12_placeCount 1 (some .int) 0 ad [.ref (ad 0)] M K := by
  refine MI_of RX12 rfl (by decide +kernel) (Nat.le_of_ble_eq_true rfl) (fun p l e s m below meth c D tc E hr => ?_)
  unfold f_X12_placeCount at h
  refine ra_aload_n E dX12_placeCount_0 rfl 0 rfl ?_
  obtain ⟨g1, h⟩ := h
  refine gf_X12_5 E fl_X12_41 dX12_placeCount_1 ?_
  refine gf_X2_0 E (isCanal_of g1) fl_X12_112 dX12_placeCount_4 ?_
  exact ra_iret E hr dX12_placeCount_7 h
def f_X12_bargeCount  (M : TM) (K : Int32 → TM → Prop) : Prop := vp_in (M 0 5) 11 ∧ K (M (27 + 61 * (M 0 5).toNatClampNeg) 4) M
set_option maxRecDepth 100000 in
set_option maxHeartbeats 4000000 in
theorem c_X12_bargeCount {ad : Nat → Nat}  (M : TM) (K : Int32 → TM → Prop) (h : f_X12_bargeCount  M K) : MI yX12_bargeCount cX12_bargeCount 1 (some .int) 0 ad [.ref (ad 0)] M K := by
  refine MI_of RX12 rfl (by decide +kernel) (Nat.le_of_ble_eq_true rfl) (fun p l e s m below meth c D tc E hr => ?_)
  unfold f_X12_bargeCount at h
  refine ra_aload_n E dX12_bargeCount_0 rfl 0 rfl ?_
  obtain ⟨g1, h⟩ := h
  refine gf_X12_5 E fl_X12_41 dX12_bargeCount_1 ?_
  refine gf_X2_4 E (isCanal_of g1) fl_X12_100 dX12_bargeCount_4 ?_
  exact ra_iret E hr dX12_bargeCount_7 h
def f_X12_orderCount  (M : TM) (K : Int32 → TM → Prop) : Prop := vp_in (M 0 5) 11 ∧ K (M (27 + 61 * (M 0 5).toNatClampNeg) 6) M
set_option maxRecDepth 100000 in
set_option maxHeartbeats 4000000 in
theorem c_X12_orderCount {ad : Nat → Nat}  (M : TM) (K : Int32 → TM → Prop) (h : f_X12_orderCount  M K) : MI yX12_orderCount cX12_orderCount 1 (some .int) 0 ad [.ref (ad 0)] M K := by
  refine MI_of RX12 rfl (by decide +kernel) (Nat.le_of_ble_eq_true rfl) (fun p l e s m below meth c D tc E hr => ?_)
  unfold f_X12_orderCount at h
  refine ra_aload_n E dX12_orderCount_0 rfl 0 rfl ?_
  obtain ⟨g1, h⟩ := h
  refine gf_X12_5 E fl_X12_41 dX12_orderCount_1 ?_
  refine gf_X2_6 E (isCanal_of g1) fl_X12_187 dX12_orderCount_4 ?_
  exact ra_iret E hr dX12_orderCount_7 h
def f_X12_mostUrgentOrder  (M : TM) (K : Int32 → TM → Prop) : Prop := vp_in (M 0 5) 11 ∧ f_X2_firstOpenByDeadline (27 + 61 * (M 0 5).toNatClampNeg) M (fun r3 M2 => K r3 M2)
set_option maxRecDepth 100000 in
set_option maxHeartbeats 4000000 in
theorem c_X12_mostUrgentOrder {ad : Nat → Nat}  (M : TM) (K : Int32 → TM → Prop) (h : f_X12_mostUrgentOrder  M K) : MI yX12_mostUrgentOrder cX12_mostUrgentOrder 1 (some .int) 1 ad [.ref (ad 0)] M K := by
  refine MI_of RX12 rfl (by decide +kernel) (Nat.le_of_ble_eq_true rfl) (fun p l e s m below meth c D tc E hr => ?_)
  unfold f_X12_mostUrgentOrder at h
  refine ra_aload_n E dX12_mostUrgentOrder_0 rfl 0 rfl ?_
  obtain ⟨g1, h⟩ := h
  refine gf_X12_5 E fl_X12_41 dX12_mostUrgentOrder_1 ?_
  refine ra_callIV (rest := []) E (c_X2_firstOpenByDeadline _ (isCanal_of g1) _ _ h) (lq_X2 _) cv_X2_firstOpenByDeadline ml_X12_227 (by decide) (lm ((isCanal_of g1).add (j := 0) (by decide))) (fun R => ⟨_, cel_canal tc ad (isCanal_of g1) R⟩) rfl rfl rfl (Nat.le_of_ble_eq_true rfl) ⟨Nat.le_of_ble_eq_true rfl, Nat.le_of_ble_eq_true rfl⟩ ⟨Nat.zero_le _, Nat.zero_le _⟩ dX12_mostUrgentOrder_4 (fun r3 M2 h => ?_)
  exact ra_iret E hr dX12_mostUrgentOrder_7 h
def f_X12_coins  (M : TM) (K : Int32 → TM → Prop) : Prop := vp_in (M 0 5) 11 ∧ K (M (27 + 61 * (M 0 5).toNatClampNeg) 9) M
set_option maxRecDepth 100000 in
set_option maxHeartbeats 4000000 in
theorem c_X12_coins {ad : Nat → Nat}  (M : TM) (K : Int32 → TM → Prop) (h : f_X12_coins  M K) : MI yX12_coins cX12_coins 1 (some .int) 0 ad [.ref (ad 0)] M K := by
  refine MI_of RX12 rfl (by decide +kernel) (Nat.le_of_ble_eq_true rfl) (fun p l e s m below meth c D tc E hr => ?_)
  unfold f_X12_coins at h
  refine ra_aload_n E dX12_coins_0 rfl 0 rfl ?_
  obtain ⟨g1, h⟩ := h
  refine gf_X12_5 E fl_X12_41 dX12_coins_1 ?_
  refine gf_X2_9 E (isCanal_of g1) fl_X12_230 dX12_coins_4 ?_
  exact ra_iret E hr dX12_coins_7 h
def f_X12_eatenBowls  (M : TM) (K : Int32 → TM → Prop) : Prop := vp_in (M 0 5) 11 ∧ K (M (27 + 61 * (M 0 5).toNatClampNeg) 11) M
set_option maxRecDepth 100000 in
set_option maxHeartbeats 4000000 in
theorem c_X12_eatenBowls {ad : Nat → Nat}  (M : TM) (K : Int32 → TM → Prop) (h : f_X12_eatenBowls  M K) : MI yX12_eatenBowls cX12_eatenBowls 1 (some .int) 0 ad [.ref (ad 0)] M K := by
  refine MI_of RX12 rfl (by decide +kernel) (Nat.le_of_ble_eq_true rfl) (fun p l e s m below meth c D tc E hr => ?_)
  unfold f_X12_eatenBowls at h
  refine ra_aload_n E dX12_eatenBowls_0 rfl 0 rfl ?_
  obtain ⟨g1, h⟩ := h
  refine gf_X12_5 E fl_X12_41 dX12_eatenBowls_1 ?_
  refine gf_X2_11 E (isCanal_of g1) fl_X12_233 dX12_eatenBowls_4 ?_
  exact ra_iret E hr dX12_eatenBowls_7 h
def f_X12_expiredOrders  (M : TM) (K : Int32 → TM → Prop) : Prop := vp_in (M 0 5) 11 ∧ K (M (27 + 61 * (M 0 5).toNatClampNeg) 13) M
set_option maxRecDepth 100000 in
set_option maxHeartbeats 4000000 in
theorem c_X12_expiredOrders {ad : Nat → Nat}  (M : TM) (K : Int32 → TM → Prop) (h : f_X12_expiredOrders  M K) : MI yX12_expiredOrders cX12_expiredOrders 1 (some .int) 0 ad [.ref (ad 0)] M K := by
  refine MI_of RX12 rfl (by decide +kernel) (Nat.le_of_ble_eq_true rfl) (fun p l e s m below meth c D tc E hr => ?_)
  unfold f_X12_expiredOrders at h
  refine ra_aload_n E dX12_expiredOrders_0 rfl 0 rfl ?_
  obtain ⟨g1, h⟩ := h
  refine gf_X12_5 E fl_X12_41 dX12_expiredOrders_1 ?_
  refine gf_X2_13 E (isCanal_of g1) fl_X12_236 dX12_expiredOrders_4 ?_
  exact ra_iret E hr dX12_expiredOrders_7 h
def f_X12_eatenShare  (M : TM) (K : UInt32 → TM → Prop) : Prop := vp_in (M 0 5) 11 ∧ vp_in (M 0 5) 11 ∧ (((1 : Int32) ≤ ((M (27 + 61 * (M 0 5).toNatClampNeg) 12) + (M (27 + 61 * (M 0 5).toNatClampNeg) 13)) → vp_in (M 0 5) 11 ∧ vf_n32 (FP.fdiv (FP.i2f (M (27 + 61 * (M 0 5).toNatClampNeg) 12)) (FP.i2f ((M (27 + 61 * (M 0 5).toNatClampNeg) 12) + (M (27 + 61 * (M 0 5).toNatClampNeg) 13)))) ∧ K (FP.fdiv (FP.i2f (M (27 + 61 * (M 0 5).toNatClampNeg) 12)) (FP.i2f ((M (27 + 61 * (M 0 5).toNatClampNeg) 12) + (M (27 + 61 * (M 0 5).toNatClampNeg) 13)))) M) ∧ (¬ (1 : Int32) ≤ ((M (27 + 61 * (M 0 5).toNatClampNeg) 12) + (M (27 + 61 * (M 0 5).toNatClampNeg) 13)) → K (FP.fconst0) M))
set_option maxRecDepth 100000 in
set_option maxHeartbeats 4000000 in
theorem c_X12_eatenShare {ad : Nat → Nat}  (M : TM) (K : UInt32 → TM → Prop) (h : f_X12_eatenShare  M K) : MF yX12_eatenShare cX12_eatenShare 2 0 ad [.ref (ad 0)] M K := by
  refine MF_of RX12 rfl (by decide +kernel) (Nat.le_of_ble_eq_true rfl) (fun p l e s m below meth c D tc E hr => ?_)
  unfold f_X12_eatenShare at h
  refine ra_aload_n E dX12_eatenShare_0 rfl 0 rfl ?_
  obtain ⟨g1, h⟩ := h
  refine gf_X12_5 E fl_X12_41 dX12_eatenShare_1 ?_
  refine gf_X2_12 E (isCanal_of g1) fl_X12_242 dX12_eatenShare_4 ?_
  refine ra_aload_n E dX12_eatenShare_7 rfl 0 rfl ?_
  obtain ⟨g2, h⟩ := h
  refine gf_X12_5 E fl_X12_41 dX12_eatenShare_8 ?_
  refine gf_X2_13 E (isCanal_of g2) fl_X12_236 dX12_eatenShare_11 ?_
  refine ra_iadd E dX12_eatenShare_14 ?_
  refine ra_istore_n (L' := [(1, _), (0, _)]) E dX12_eatenShare_15 rfl (by decide) rfl ?_
  refine ra_iload_n E dX12_eatenShare_16 rfl 0 rfl ?_
  refine ra_iconst E dX12_eatenShare_17 ki_1 ?_
  refine ra_icmp_ge (tgt := 23) E dX12_eatenShare_18 (by decide) (fun q3 => ?_) (fun q3 => ?_)
  · replace h := h.1 q3
    refine ra_aload_n E dX12_eatenShare_23 rfl 1 rfl ?_
    obtain ⟨g4, h⟩ := h
    refine gf_X12_5 E fl_X12_41 dX12_eatenShare_24 ?_
    refine gf_X2_12 E (isCanal_of g4) fl_X12_242 dX12_eatenShare_27 ?_
    refine ra_i2f E dX12_eatenShare_30 ?_
    refine ra_iload_n E dX12_eatenShare_31 rfl 0 rfl ?_
    refine ra_i2f E dX12_eatenShare_32 ?_
    obtain ⟨g5, h⟩ := h
    refine ra_fdiv E dX12_eatenShare_33 g5 ?_
    exact ra_fret E hr dX12_eatenShare_34 h
  · replace h := h.2 q3
    refine ra_fconst0 E dX12_eatenShare_21 ?_
    exact ra_fret E hr dX12_eatenShare_22 h
def f_X12_gap  (M : TM) (K : Int32 → TM → Prop) : Prop := vp_in (M 0 5) 11 ∧ f_X2_pairsGap (27 + 61 * (M 0 5).toNatClampNeg) M (fun r3 M2 => vp_in (M2 0 5) 11 ∧ f_X2_bowlsGap (27 + 61 * (M2 0 5).toNatClampNeg) M2 (fun r6 M5 => K (r3 + r6) M5))
set_option maxRecDepth 100000 in
set_option maxHeartbeats 4000000 in
theorem c_X12_gap {ad : Nat → Nat}  (M : TM) (K : Int32 → TM → Prop) (h : f_X12_gap  M K) : MI yX12_gap cX12_gap 1 (some .int) 2 ad [.ref (ad 0)] M K := by
  refine MI_of RX12 rfl (by decide +kernel) (Nat.le_of_ble_eq_true rfl) (fun p l e s m below meth c D tc E hr => ?_)
  unfold f_X12_gap at h
  refine ra_aload_n E dX12_gap_0 rfl 0 rfl ?_
  obtain ⟨g1, h⟩ := h
  refine gf_X12_5 E fl_X12_41 dX12_gap_1 ?_
  refine ra_callIV (rest := []) E (c_X2_pairsGap _ (isCanal_of g1) _ _ h) (lq_X2 _) cv_X2_pairsGap ml_X12_245 (by decide) (lm ((isCanal_of g1).add (j := 0) (by decide))) (fun R => ⟨_, cel_canal tc ad (isCanal_of g1) R⟩) rfl rfl rfl (Nat.le_of_ble_eq_true rfl) ⟨Nat.le_of_ble_eq_true rfl, Nat.le_of_ble_eq_true rfl⟩ ⟨Nat.zero_le _, Nat.zero_le _⟩ dX12_gap_4 (fun r3 M2 h => ?_)
  refine ra_aload_n E dX12_gap_7 rfl 0 rfl ?_
  obtain ⟨g4, h⟩ := h
  refine gf_X12_5 E fl_X12_41 dX12_gap_8 ?_
  refine ra_callIV (rest := [_]) E (c_X2_bowlsGap _ (isCanal_of g4) _ _ h) (lq_X2 _) cv_X2_bowlsGap ml_X12_248 (by decide) (lm ((isCanal_of g4).add (j := 0) (by decide))) (fun R => ⟨_, cel_canal tc ad (isCanal_of g4) R⟩) rfl rfl rfl (Nat.le_of_ble_eq_true rfl) ⟨Nat.le_of_ble_eq_true rfl, Nat.le_of_ble_eq_true rfl⟩ ⟨Nat.zero_le _, Nat.zero_le _⟩ dX12_gap_11 (fun r6 M5 h => ?_)
  refine ra_iadd E dX12_gap_14 ?_
  exact ra_iret E hr dX12_gap_15 h
def f_X12_undoableCount  (M : TM) (K : Int32 → TM → Prop) : Prop := K (M 25 2) M
set_option maxRecDepth 100000 in
set_option maxHeartbeats 4000000 in
theorem c_X12_undoableCount {ad : Nat → Nat}  (M : TM) (K : Int32 → TM → Prop) (h : f_X12_undoableCount  M K) : MI yX12_undoableCount cX12_undoableCount 1 (some .int) 0 ad [.ref (ad 0)] M K := by
  refine MI_of RX12 rfl (by decide +kernel) (Nat.le_of_ble_eq_true rfl) (fun p l e s m below meth c D tc E hr => ?_)
  unfold f_X12_undoableCount at h
  refine ra_aload_n E dX12_undoableCount_0 rfl 0 rfl ?_
  refine gf_X12_2 E fl_X12_26 dX12_undoableCount_1 ?_
  refine gf_X5_2 E fl_X12_359 dX12_undoableCount_4 ?_
  exact ra_iret E hr dX12_undoableCount_7 h
def f_X12_writeSign (p1 : Int32) (M : TM) (K : TM → Prop) : Prop := (((31 : Int32) ≤ (M 0 8) → K M) ∧ (¬ (31 : Int32) ≤ (M 0 8) → vp_in (M 0 8) 31 ∧ ∀ M3, M3 = u2 M 698 (M 0 8).toNatClampNeg (vp_nar .byte (p1.toInt8.toInt32)) → ∀ M4, M4 = u2 M3 0 8 ((M3 0 8) + (1 : Int32)) → K M4))
set_option maxRecDepth 100000 in
set_option maxHeartbeats 4000000 in
theorem c_X12_writeSign {ad : Nat → Nat} (p1 : Int32) (M : TM) (K : TM → Prop) (h : f_X12_writeSign p1 M K) : MV yX12_writeSign cX12_writeSign 2 0 ad [.ref (ad 0), .int p1] M K := by
  refine MV_of RX12 rfl (by decide +kernel) (Nat.le_of_ble_eq_true rfl) (fun p l e s m below meth c D tc E hr => ?_)
  unfold f_X12_writeSign at h
  refine ra_aload_n E dX12_writeSign_0 rfl 0 rfl ?_
  refine gf_X12_8 E fl_X12_51 dX12_writeSign_1 ?_
  refine ra_aload_n E dX12_writeSign_4 rfl 0 rfl ?_
  refine gf_X12_7 E fl_X12_47 dX12_writeSign_5 ?_
  refine ra_alen (n := 31) (v := 31) E (lm (by decide)) (fun R => ⟨_, (cel_698 tc ad) R, rfl⟩) rfl (by decide) dX12_writeSign_8 ?_
  refine ra_icmp_ge (tgt := 33) E dX12_writeSign_9 (by decide) (fun q1 => ?_) (fun q1 => ?_)
  · replace h := h.1 q1
    exact ra_vret E hr dX12_writeSign_33 h
  · replace h := h.2 q1
    refine ra_aload_n E dX12_writeSign_12 rfl 0 rfl ?_
    refine gf_X12_7 E fl_X12_47 dX12_writeSign_13 ?_
    refine ra_aload_n E dX12_writeSign_16 rfl 0 rfl ?_
    refine gf_X12_8 E fl_X12_51 dX12_writeSign_17 ?_
    refine ra_iload_n E dX12_writeSign_20 rfl 1 rfl ?_
    refine ra_i2b E dX12_writeSign_21 rfl ?_
    obtain ⟨g2, h⟩ := h
    refine ra_bast E (lm (by decide)) (cel_698 tc ad) g2 dX12_writeSign_22 ?_
    replace h := h _ rfl
    refine ra_aload_n E dX12_writeSign_23 rfl 0 rfl ?_
    refine ra_dup E dX12_writeSign_24 rfl ?_
    refine gf_X12_8 E fl_X12_51 dX12_writeSign_25 ?_
    refine ra_iconst E dX12_writeSign_28 ki_1 ?_
    refine ra_iadd E dX12_writeSign_29 ?_
    refine pf_X12_8 E fl_X12_51 dX12_writeSign_30 ?_
    replace h := h _ rfl
    exact ra_vret E hr dX12_writeSign_33 h
def f_X12_sectionAt (p1 : Int32) (M : TM) (K : Option Nat → TM → Prop) : Prop := vp_in (M 0 5) 11 ∧ f_X2_hasSection (27 + 61 * (M 0 5).toNatClampNeg) p1 M (fun r3 M2 => ((¬ r3 = 0 → vp_in (M2 0 5) 11 ∧ vp_in p1 15 ∧ K (some ((27 + 61 * (M2 0 5).toNatClampNeg) + 6 + p1.toNatClampNeg)) M2) ∧ (r3 = 0 → False)))
set_option maxRecDepth 100000 in
set_option maxHeartbeats 4000000 in
theorem c_X12_sectionAt {ad : Nat → Nat} (p1 : Int32) (M : TM) (K : Option Nat → TM → Prop) (h : f_X12_sectionAt p1 M K) : MA yX12_sectionAt cX12_sectionAt 2 (some (.object "NoodleCanal$Section")) 1 ad [.ref (ad 0), .int p1] M K := by
  refine MA_of RX12 rfl (by decide +kernel) (Nat.le_of_ble_eq_true rfl) (fun p l e s m below meth c D tc E hr => ?_)
  unfold f_X12_sectionAt at h
  refine ra_aload_n E dX12_sectionAt_0 rfl 0 rfl ?_
  obtain ⟨g1, h⟩ := h
  refine gf_X12_5 E fl_X12_41 dX12_sectionAt_1 ?_
  refine ra_iload_n E dX12_sectionAt_4 rfl 1 rfl ?_
  refine ra_callIV (rest := []) E (c_X2_hasSection _ (isCanal_of g1) _ _ _ h) (lq_X2 _) cv_X2_hasSection ml_X12_365 (by decide) (lm ((isCanal_of g1).add (j := 0) (by decide))) (fun R => ⟨_, cel_canal tc ad (isCanal_of g1) R⟩) rfl rfl rfl (Nat.le_of_ble_eq_true rfl) ⟨Nat.le_of_ble_eq_true rfl, Nat.le_of_ble_eq_true rfl⟩ ⟨Nat.zero_le _, Nat.zero_le _⟩ dX12_sectionAt_5 (fun r3 M2 h => ?_)
  obtain ⟨b4, h⟩ := h
  refine ra_if_ne (tgt := 22) E dX12_sectionAt_8 (by decide) (fun q5 => ?_) (fun q5 => ?_)
  · replace h := h.1 q5
    refine ra_aload_n E dX12_sectionAt_22 rfl 0 rfl ?_
    obtain ⟨g6, h⟩ := h
    refine gf_X12_5 E fl_X12_41 dX12_sectionAt_23 ?_
    refine gf_X2_1 E (isCanal_of g6) fl_X12_370 dX12_sectionAt_26 ?_
    refine ra_iload_n E dX12_sectionAt_29 rfl 1 rfl ?_
    obtain ⟨g7, h⟩ := h
    refine ra_aald E (lm ((isCanal_of g6).add (by decide))) (cel_secs tc ad (isCanal_of g6)) rfl g7 dX12_sectionAt_30 ?_
    exact ra_aret (o := (some ((27 + 61 * (M2 0 5).toNatClampNeg) + 6 + p1.toNatClampNeg))) E hr dX12_sectionAt_31 h
  · replace h := h.2 q5
    exact h.elim
def f_X12_requirePlace (p1 : Int32) (M : TM) (K : TM → Prop) : Prop := vp_in (M 0 5) 11 ∧ f_X2_hasPlace (27 + 61 * (M 0 5).toNatClampNeg) p1 M (fun r3 M2 => ((¬ r3 = 0 → K M2) ∧ (r3 = 0 → False)))
set_option maxRecDepth 100000 in
set_option maxHeartbeats 4000000 in
theorem c_X12_requirePlace {ad : Nat → Nat} (p1 : Int32) (M : TM) (K : TM → Prop) (h : f_X12_requirePlace p1 M K) : MV yX12_requirePlace cX12_requirePlace 2 1 ad [.ref (ad 0), .int p1] M K := by
  refine MV_of RX12 rfl (by decide +kernel) (Nat.le_of_ble_eq_true rfl) (fun p l e s m below meth c D tc E hr => ?_)
  unfold f_X12_requirePlace at h
  refine ra_aload_n E dX12_requirePlace_0 rfl 0 rfl ?_
  obtain ⟨g1, h⟩ := h
  refine gf_X12_5 E fl_X12_41 dX12_requirePlace_1 ?_
  refine ra_iload_n E dX12_requirePlace_4 rfl 1 rfl ?_
  refine ra_callIV (rest := []) E (c_X2_hasPlace _ (isCanal_of g1) _ _ _ h) (lq_X2 _) cv_X2_hasPlace ml_X12_382 (by decide) (lm ((isCanal_of g1).add (j := 0) (by decide))) (fun R => ⟨_, cel_canal tc ad (isCanal_of g1) R⟩) rfl rfl rfl (Nat.le_of_ble_eq_true rfl) ⟨Nat.le_of_ble_eq_true rfl, Nat.le_of_ble_eq_true rfl⟩ ⟨Nat.zero_le _, Nat.zero_le _⟩ dX12_requirePlace_5 (fun r3 M2 h => ?_)
  obtain ⟨b4, h⟩ := h
  refine ra_if_ne (tgt := 22) E dX12_requirePlace_8 (by decide) (fun q5 => ?_) (fun q5 => ?_)
  · replace h := h.1 q5
    exact ra_vret E hr dX12_requirePlace_22 h
  · replace h := h.2 q5
    exact h.elim
def f_X12_requireBarge (p1 : Int32) (M : TM) (K : TM → Prop) : Prop := vp_in (M 0 5) 11 ∧ f_X2_hasBarge (27 + 61 * (M 0 5).toNatClampNeg) p1 M (fun r3 M2 => ((¬ r3 = 0 → K M2) ∧ (r3 = 0 → False)))
set_option maxRecDepth 100000 in
set_option maxHeartbeats 4000000 in
theorem c_X12_requireBarge {ad : Nat → Nat} (p1 : Int32) (M : TM) (K : TM → Prop) (h : f_X12_requireBarge p1 M K) : MV yX12_requireBarge cX12_requireBarge 2 1 ad [.ref (ad 0), .int p1] M K := by
  refine MV_of RX12 rfl (by decide +kernel) (Nat.le_of_ble_eq_true rfl) (fun p l e s m below meth c D tc E hr => ?_)
  unfold f_X12_requireBarge at h
  refine ra_aload_n E dX12_requireBarge_0 rfl 0 rfl ?_
  obtain ⟨g1, h⟩ := h
  refine gf_X12_5 E fl_X12_41 dX12_requireBarge_1 ?_
  refine ra_iload_n E dX12_requireBarge_4 rfl 1 rfl ?_
  refine ra_callIV (rest := []) E (c_X2_hasBarge _ (isCanal_of g1) _ _ _ h) (lq_X2 _) cv_X2_hasBarge ml_X12_387 (by decide) (lm ((isCanal_of g1).add (j := 0) (by decide))) (fun R => ⟨_, cel_canal tc ad (isCanal_of g1) R⟩) rfl rfl rfl (Nat.le_of_ble_eq_true rfl) ⟨Nat.le_of_ble_eq_true rfl, Nat.le_of_ble_eq_true rfl⟩ ⟨Nat.zero_le _, Nat.zero_le _⟩ dX12_requireBarge_5 (fun r3 M2 h => ?_)
  obtain ⟨b4, h⟩ := h
  refine ra_if_ne (tgt := 22) E dX12_requireBarge_8 (by decide) (fun q5 => ?_) (fun q5 => ?_)
  · replace h := h.1 q5
    exact ra_vret E hr dX12_requireBarge_22 h
  · replace h := h.2 q5
    exact h.elim
def f_X12_requireOrder (p1 : Int32) (M : TM) (K : TM → Prop) : Prop := vp_in (M 0 5) 11 ∧ f_X2_hasOrder (27 + 61 * (M 0 5).toNatClampNeg) p1 M (fun r3 M2 => ((¬ r3 = 0 → K M2) ∧ (r3 = 0 → False)))
set_option maxRecDepth 100000 in
set_option maxHeartbeats 4000000 in
theorem c_X12_requireOrder {ad : Nat → Nat} (p1 : Int32) (M : TM) (K : TM → Prop) (h : f_X12_requireOrder p1 M K) : MV yX12_requireOrder cX12_requireOrder 2 1 ad [.ref (ad 0), .int p1] M K := by
  refine MV_of RX12 rfl (by decide +kernel) (Nat.le_of_ble_eq_true rfl) (fun p l e s m below meth c D tc E hr => ?_)
  unfold f_X12_requireOrder at h
  refine ra_aload_n E dX12_requireOrder_0 rfl 0 rfl ?_
  obtain ⟨g1, h⟩ := h
  refine gf_X12_5 E fl_X12_41 dX12_requireOrder_1 ?_
  refine ra_iload_n E dX12_requireOrder_4 rfl 1 rfl ?_
  refine ra_callIV (rest := []) E (c_X2_hasOrder _ (isCanal_of g1) _ _ _ h) (lq_X2 _) cv_X2_hasOrder ml_X12_392 (by decide) (lm ((isCanal_of g1).add (j := 0) (by decide))) (fun R => ⟨_, cel_canal tc ad (isCanal_of g1) R⟩) rfl rfl rfl (Nat.le_of_ble_eq_true rfl) ⟨Nat.le_of_ble_eq_true rfl, Nat.le_of_ble_eq_true rfl⟩ ⟨Nat.zero_le _, Nat.zero_le _⟩ dX12_requireOrder_5 (fun r3 M2 h => ?_)
  obtain ⟨b4, h⟩ := h
  refine ra_if_ne (tgt := 22) E dX12_requireOrder_8 (by decide) (fun q5 => ?_) (fun q5 => ?_)
  · replace h := h.1 q5
    exact ra_vret E hr dX12_requireOrder_22 h
  · replace h := h.2 q5
    exact h.elim
def f_X12_requireText (p1 : Int32) (M : TM) (K : TM → Prop) : Prop := ((p1 < 0 → False) ∧ (¬ p1 < 0 → ((p1 ≤ (M 1 1) → K M) ∧ (¬ p1 ≤ (M 1 1) → False))))
set_option maxRecDepth 100000 in
set_option maxHeartbeats 4000000 in
theorem c_X12_requireText {ad : Nat → Nat} (p1 : Int32) (M : TM) (K : TM → Prop) (h : f_X12_requireText p1 M K) : MV yX12_requireText cX12_requireText 2 0 ad [.ref (ad 0), .int p1] M K := by
  refine MV_of RX12 rfl (by decide +kernel) (Nat.le_of_ble_eq_true rfl) (fun p l e s m below meth c D tc E hr => ?_)
  unfold f_X12_requireText at h
  refine ra_iload_n E dX12_requireText_0 rfl 1 rfl ?_
  refine ra_if_lt (tgt := 15) E dX12_requireText_1 (by decide) (fun q1 => ?_) (fun q1 => ?_)
  · replace h := h.1 q1
    exact h.elim
  · replace h := h.2 q1
    refine ra_iload_n E dX12_requireText_4 rfl 1 rfl ?_
    refine ra_aload_n E dX12_requireText_5 rfl 0 rfl ?_
    refine gf_X12_0 E fl_X12_10 dX12_requireText_6 ?_
    refine gf_X10_1 E fl_X12_87 dX12_requireText_9 ?_
    refine ra_icmp_le (tgt := 26) E dX12_requireText_12 (by decide) (fun q2 => ?_) (fun q2 => ?_)
    · replace h := h.1 q2
      exact ra_vret E hr dX12_requireText_26 h
    · replace h := h.2 q2
      exact h.elim
def f_X12_requireRange (p0 : Int32) (p1 : Int32) (p2 : Int32) (M : TM) (K : TM → Prop) : Prop := ((p0 < p1 → False) ∧ (¬ p0 < p1 → ((p0 ≤ p2 → K M) ∧ (¬ p0 ≤ p2 → False))))
set_option maxRecDepth 100000 in
set_option maxHeartbeats 4000000 in
theorem c_X12_requireRange {ad : Nat → Nat} (p0 : Int32) (p1 : Int32) (p2 : Int32) (M : TM) (K : TM → Prop) (h : f_X12_requireRange p0 p1 p2 M K) : MV yX12_requireRange cX12_requireRange 3 0 ad [.int p0, .int p1, .int p2] M K := by
  refine MV_of RX12 rfl (by decide +kernel) (Nat.le_of_ble_eq_true rfl) (fun p l e s m below meth c D tc E hr => ?_)
  unfold f_X12_requireRange at h
  refine ra_iload_n E dX12_requireRange_0 rfl 0 rfl ?_
  refine ra_iload_n E dX12_requireRange_1 rfl 1 rfl ?_
  refine ra_icmp_lt (tgt := 10) E dX12_requireRange_2 (by decide) (fun q1 => ?_) (fun q1 => ?_)
  · replace h := h.1 q1
    exact h.elim
  · replace h := h.2 q1
    refine ra_iload_n E dX12_requireRange_5 rfl 0 rfl ?_
    refine ra_iload_n E dX12_requireRange_6 rfl 2 rfl ?_
    refine ra_icmp_le (tgt := 21) E dX12_requireRange_7 (by decide) (fun q2 => ?_) (fun q2 => ?_)
    · replace h := h.1 q2
      exact ra_vret E hr dX12_requireRange_21 h
    · replace h := h.2 q2
      exact h.elim
def f_X12_requireState (p0 : Int32) (M : TM) (K : TM → Prop) : Prop := ((¬ p0 = 0 → K M) ∧ (p0 = 0 → False))
set_option maxRecDepth 100000 in
set_option maxHeartbeats 4000000 in
theorem c_X12_requireState {ad : Nat → Nat} (p0 : Int32) (M : TM) (K : TM → Prop) (h : f_X12_requireState p0 M K) : MV yX12_requireState cX12_requireState 1 0 ad [.int p0] M K := by
  refine MV_of RX12 rfl (by decide +kernel) (Nat.le_of_ble_eq_true rfl) (fun p l e s m below meth c D tc E hr => ?_)
  unfold f_X12_requireState at h
  refine ra_iload_n E dX12_requireState_0 rfl 0 rfl ?_
  refine ra_if_ne (tgt := 15) E dX12_requireState_1 (by decide) (fun q1 => ?_) (fun q1 => ?_)
  · replace h := h.1 q1
    exact ra_vret E hr dX12_requireState_15 h
  · replace h := h.2 q1
    exact h.elim
def f_J0_coder_7d493 (a0 : Nat) (M : TM) (K : Int32 → TM → Prop) : Prop := K (0 : Int32) M
set_option maxRecDepth 100000 in
set_option maxHeartbeats 4000000 in
theorem c_J0_coder_7d493 {ad : Nat → Nat} (a0 : Nat) (h0 : a0 < nS) (M : TM) (K : Int32 → TM → Prop) (h : f_J0_coder_7d493 a0 M K) : MI yJ0_coder_7d493 cJ0_coder_7d493 1 (some .byte) 0 ad [.ref (ad (2200 + a0))] M K := by
  refine MI_of RJ0 rfl (by decide +kernel) (Nat.le_of_ble_eq_true rfl) (fun p l e s m below meth c D tc E hr => ?_)
  unfold f_J0_coder_7d493 at h
  refine gs_comp E fl_J0_38 dJ0_coder_7d493_0 ?_
  refine ra_if_eq (tgt := 13) E dJ0_coder_7d493_3 (by decide) (fun q => absurd q (by decide)) (fun _ => ?_)
  refine ra_aload_n E dJ0_coder_7d493_6 rfl 0 rfl ?_
  refine gf_scod E h0 fl_J0_15 dJ0_coder_7d493_7 ?_
  refine ra_goto (tgt := 14) E dJ0_coder_7d493_10 (by decide) ?_
  exact ra_zret E hr (by decide) dJ0_coder_7d493_14 h
def f_J0_isLatin1_aae02 (a0 : Nat) (M : TM) (K : Int32 → TM → Prop) : Prop := K (1 : Int32) M
set_option maxRecDepth 100000 in
set_option maxHeartbeats 4000000 in
theorem c_J0_isLatin1_aae02 {ad : Nat → Nat} (a0 : Nat) (h0 : a0 < nS) (M : TM) (K : Int32 → TM → Prop) (h : f_J0_isLatin1_aae02 a0 M K) : MI yJ0_isLatin1_aae02 cJ0_isLatin1_aae02 1 (some .boolean) 0 ad [.ref (ad (2200 + a0))] M (fun r M' => (r = 0 ∨ r = 1) ∧ K r M') := by
  refine MI_of RJ0 rfl (by decide +kernel) (Nat.le_of_ble_eq_true rfl) (fun p l e s m below meth c D tc E hr => ?_)
  unfold f_J0_isLatin1_aae02 at h
  refine gs_comp E fl_J0_38 dJ0_isLatin1_aae02_0 ?_
  refine ra_if_eq (tgt := 17) E dJ0_isLatin1_aae02_3 (by decide) (fun q => absurd q (by decide)) (fun _ => ?_)
  refine ra_aload_n E dJ0_isLatin1_aae02_6 rfl 0 rfl ?_
  refine gf_scod E h0 fl_J0_15 dJ0_isLatin1_aae02_7 ?_
  refine ra_if_ne (tgt := 17) E dJ0_isLatin1_aae02_10 (by decide) (fun q => absurd q (by decide)) (fun _ => ?_)
  refine ra_iconst E dJ0_isLatin1_aae02_13 ki_1 ?_
  refine ra_goto (tgt := 18) E dJ0_isLatin1_aae02_14 (by decide) ?_
  exact ra_zret E hr rfl dJ0_isLatin1_aae02_18 ⟨Or.inr rfl, h⟩
def f_J1_canEncode_fc78d (p0 : Int32) (M : TM) (K : Int32 → TM → Prop) : Prop := (((255 : Int32) < p0 → K (0 : Int32) M) ∧ (¬ (255 : Int32) < p0 → K (1 : Int32) M))
set_option maxRecDepth 100000 in
set_option maxHeartbeats 4000000 in
theorem c_J1_canEncode_fc78d {ad : Nat → Nat} (p0 : Int32) (M : TM) (K : Int32 → TM → Prop) (h : f_J1_canEncode_fc78d p0 M K) : MI yJ1_canEncode_fc78d cJ1_canEncode_fc78d 1 (some .boolean) 0 ad [.int p0] M (fun r M' => (r = 0 ∨ r = 1) ∧ K r M') := by
  refine MI_of RJ1 rfl (by decide +kernel) (Nat.le_of_ble_eq_true rfl) (fun p l e s m below meth c D tc E hr => ?_)
  unfold f_J1_canEncode_fc78d at h
  refine ra_iload_n E dJ1_canEncode_fc78d_0 rfl 0 rfl ?_
  refine ra_sipush E dJ1_canEncode_fc78d_1 ks_255 ?_
  refine ra_icmp_gt (tgt := 11) E dJ1_canEncode_fc78d_4 (by decide) (fun q1 => ?_) (fun q1 => ?_)
  · replace h := h.1 q1
    refine ra_iconst E dJ1_canEncode_fc78d_11 ki_0 ?_
    exact ra_zret E hr rfl dJ1_canEncode_fc78d_12 ⟨Or.inl rfl, h⟩
  · replace h := h.2 q1
    refine ra_iconst E dJ1_canEncode_fc78d_7 ki_1 ?_
    refine ra_goto (tgt := 12) E dJ1_canEncode_fc78d_8 (by decide) ?_
    exact ra_zret E hr rfl dJ1_canEncode_fc78d_12 ⟨Or.inr rfl, h⟩
def f_J3_checkIndex_8e157 (p0 : Int32) (p1 : Int32) (a2 : Value) (M : TM) (K : Int32 → TM → Prop) : Prop := ((p0 < 0 → False) ∧ (¬ p0 < 0 → ((p0 < p1 → K p0 M) ∧ (¬ p0 < p1 → False))))
set_option maxRecDepth 100000 in
set_option maxHeartbeats 4000000 in
theorem c_J3_checkIndex_8e157 {ad : Nat → Nat} (p0 : Int32) (p1 : Int32) (a2 : Value) (h2 : a2 = .null ∨ ∃ z, a2 = .ref z) (M : TM) (K : Int32 → TM → Prop) (h : f_J3_checkIndex_8e157 p0 p1 a2 M K) : MI yJ3_checkIndex_8e157 cJ3_checkIndex_8e157 3 (some .int) 0 ad [.int p0, .int p1, a2] M K := by
  rcases h2 with rfl | ⟨z9, rfl⟩
  · refine MI_of RJ3 rfl (by decide +kernel) (Nat.le_of_ble_eq_true rfl) (fun p l e s m below meth c D tc E hr => ?_)
    unfold f_J3_checkIndex_8e157 at h
    refine ra_iload_n E dJ3_checkIndex_8e157_0 rfl 0 rfl ?_
    refine ra_if_lt (tgt := 9) E dJ3_checkIndex_8e157_1 (by decide) (fun q1 => ?_) (fun q1 => ?_)
    · replace h := h.1 q1
      exact h.elim
    · replace h := h.2 q1
      refine ra_iload_n E dJ3_checkIndex_8e157_4 rfl 0 rfl ?_
      refine ra_iload_n E dJ3_checkIndex_8e157_5 rfl 1 rfl ?_
      refine ra_icmp_lt (tgt := 16) E dJ3_checkIndex_8e157_6 (by decide) (fun q2 => ?_) (fun q2 => ?_)
      · replace h := h.1 q2
        refine ra_iload_n E dJ3_checkIndex_8e157_16 rfl 0 rfl ?_
        exact ra_iret E hr dJ3_checkIndex_8e157_17 h
      · replace h := h.2 q2
        exact h.elim
  · refine MI_of RJ3 rfl (by decide +kernel) (Nat.le_of_ble_eq_true rfl) (fun p l e s m below meth c D tc E hr => ?_)
    unfold f_J3_checkIndex_8e157 at h
    refine ra_iload_n E dJ3_checkIndex_8e157_0 rfl 0 rfl ?_
    refine ra_if_lt (tgt := 9) E dJ3_checkIndex_8e157_1 (by decide) (fun q1 => ?_) (fun q1 => ?_)
    · replace h := h.1 q1
      exact h.elim
    · replace h := h.2 q1
      refine ra_iload_n E dJ3_checkIndex_8e157_4 rfl 0 rfl ?_
      refine ra_iload_n E dJ3_checkIndex_8e157_5 rfl 1 rfl ?_
      refine ra_icmp_lt (tgt := 16) E dJ3_checkIndex_8e157_6 (by decide) (fun q2 => ?_) (fun q2 => ?_)
      · replace h := h.1 q2
        refine ra_iload_n E dJ3_checkIndex_8e157_16 rfl 0 rfl ?_
        exact ra_iret E hr dJ3_checkIndex_8e157_17 h
      · replace h := h.2 q2
        exact h.elim

def f_L_most (p0 : Int32) (p1 : Int32) (M : TM) (K : Int32 → TM → Prop) : Prop := ¬ p1 = 0 ∧ K ((p0 &&& (2147483647 : Int32)) - (p0 &&& (2147483647 : Int32)) / p1 * p1) M
set_option maxRecDepth 100000 in
set_option maxHeartbeats 4000000 in
theorem c_L_most {ad : Nat → Nat} (p0 : Int32) (p1 : Int32) (M : TM) (K : Int32 → TM → Prop) (h : f_L_most p0 p1 M K) : MI yL_most cL_most 2 (some .int) 0 ad [.int p0, .int p1] M K := by
  refine MI_of RL rfl (by decide +kernel) (Nat.le_of_ble_eq_true rfl) (fun p l e s m below meth c D tc E hr => ?_)
  unfold f_L_most at h
  refine ra_iload_n E dL_most_0 rfl 0 rfl ?_
  refine ra_ldci (v := 2147483647) E kc_L_7 dL_most_1 ?_
  refine ra_iand E dL_most_3 ?_
  refine ra_iload_n E dL_most_4 rfl 1 rfl ?_
  obtain ⟨g1, h⟩ := h
  refine ra_irem E dL_most_5 g1 ?_
  exact ra_iret E hr dL_most_6 h
def f_L_alike_L11 (a0 : Nat) (n0 : Nat) (a1 : Nat) (n1 : Nat) (K : Int32 → TM → Prop) : Nat → Int32 → TM → Prop
  | 0, _, _ => False
  | n + 1, x2, M => (((nI n0) ≤ x2 → K (1 : Int32) M) ∧ (¬ (nI n0) ≤ x2 → vp_in x2 n0 ∧ vp_in x2 n1 ∧ (((M a0 x2.toNatClampNeg) = (M a1 x2.toNatClampNeg) → f_L_alike_L11 a0 n0 a1 n1 K n (x2 + 1) M) ∧ (¬ (M a0 x2.toNatClampNeg) = (M a1 x2.toNatClampNeg) → K (0 : Int32) M))))
set_option maxRecDepth 100000 in
set_option maxHeartbeats 4000000 in
theorem l_L_alike_L11 {p : Program} {l : Launch} {e : Env} {s : State} {m : MethodId} {args : Array Value} {below : List Frame} {meth : Method} {c : Code} {D : va_G} {tc : Nat → ClassId} {ad : Nat → Nat} (a0 : Nat) (n0 : Nat) (h0 : KeptA ad a0 n0) (a1 : Nat) (n1 : Nat) (h1 : KeptA ad a1 n1) {K : Int32 → TM → Prop} (E : Ev p s m args meth c D tc ad RL cL_alike 3) (hr : meth.sig.returnType = (some .boolean)) : ∀ (n : Nat) (x2 : Int32) (M : TM) , f_L_alike_L11 a0 n0 a1 n1 K n x2 M → Wa p l e (rmD 0) s m args below meth c 0 0 (MQ below (va_Qi (fun r M' => (r = 0 ∨ r = 1) ∧ K r M') (EndW D tc ad) (A0 ad s.heap.size)) args s 0 0 (A0 ad s.heap.size)) D tc ad 3 M 11 [(0, .ref (ad a0)), (1, .ref (ad a1)), (2, .int x2)] [] := by
  intro n
  induction n with
  | zero => intro x2 M  h; exact h.elim
  | succ n ih =>
    intro x2 M  h
    unfold f_L_alike_L11 at h
    refine ra_iload_n E dL_alike_11 rfl 2 rfl ?_
    refine ra_aload_n E dL_alike_12 rfl 0 rfl ?_
    refine ra_alenW (n := n0) (v := nI n0) (t := 1) E h0.2.1 (fun R => ⟨_, (cel_keptA tc h0) R, rfl⟩) rfl rfl dL_alike_13 ?_
    refine ra_icmp_ge (tgt := 34) E dL_alike_14 (by decide) (fun q2 => ?_) (fun q2 => ?_)
    · replace h := h.1 q2
      refine ra_iconst E dL_alike_34 ki_1 ?_
      exact ra_zret E hr rfl dL_alike_35 ⟨Or.inr rfl, h⟩
    · replace h := h.2 q2
      refine ra_aload_n E dL_alike_17 rfl 0 rfl ?_
      refine ra_iload_n E dL_alike_18 rfl 2 rfl ?_
      obtain ⟨g3, h⟩ := h
      refine ra_ialdW E h0.2.1 (cel_keptA tc h0) g3 dL_alike_19 ?_
      refine ra_aload_n E dL_alike_20 rfl 1 rfl ?_
      refine ra_iload_n E dL_alike_21 rfl 2 rfl ?_
      obtain ⟨g4, h⟩ := h
      refine ra_ialdW E h1.2.1 (cel_keptA tc h1) g4 dL_alike_22 ?_
      refine ra_icmp_eq (tgt := 28) E dL_alike_23 (by decide) (fun q5 => ?_) (fun q5 => ?_)
      · replace h := h.1 q5
        refine ra_iinc1 (L' := [(2, _), (0, _), (1, _)]) E dL_alike_28 2 rfl (by decide) rfl ?_
        refine ra_goto (tgt := 11) E dL_alike_31 (by decide) ?_
        exact ra_sub (L' := [(0, _), (1, _), (2, _)]) [1, 2, 0] rfl (ih _ _ h)
      · replace h := h.2 q5
        refine ra_iconst E dL_alike_26 ki_0 ?_
        exact ra_zret E hr rfl dL_alike_27 ⟨Or.inl rfl, h⟩
def f_L_alike (a0 : Nat) (n0 : Nat) (a1 : Nat) (n1 : Nat) (M : TM) (K : Int32 → TM → Prop) : Prop := (((nI n0) = (nI n1) → ∃ n11, f_L_alike_L11 a0 n0 a1 n1 K n11 (0 : Int32) M) ∧ (¬ (nI n0) = (nI n1) → K (0 : Int32) M))
set_option maxRecDepth 100000 in
set_option maxHeartbeats 4000000 in
theorem c_L_alike {ad : Nat → Nat} (a0 : Nat) (n0 : Nat) (h0 : KeptA ad a0 n0) (a1 : Nat) (n1 : Nat) (h1 : KeptA ad a1 n1) (M : TM) (K : Int32 → TM → Prop) (h : f_L_alike a0 n0 a1 n1 M K) : MI yL_alike cL_alike 3 (some .boolean) 0 ad [.ref (ad a0), .ref (ad a1)] M (fun r M' => (r = 0 ∨ r = 1) ∧ K r M') := by
  refine MI_of RL rfl (by decide +kernel) (Nat.le_of_ble_eq_true rfl) (fun p l e s m below meth c D tc E hr => ?_)
  unfold f_L_alike at h
  refine ra_aload_n E dL_alike_0 rfl 0 rfl ?_
  refine ra_alenW (n := n0) (v := nI n0) (t := 1) E h0.2.1 (fun R => ⟨_, (cel_keptA tc h0) R, rfl⟩) rfl rfl dL_alike_1 ?_
  refine ra_aload_n E dL_alike_2 rfl 1 rfl ?_
  refine ra_alenW (n := n1) (v := nI n1) (t := 1) E h1.2.1 (fun R => ⟨_, (cel_keptA tc h1) R, rfl⟩) rfl rfl dL_alike_3 ?_
  refine ra_icmp_eq (tgt := 9) E dL_alike_4 (by decide) (fun q1 => ?_) (fun q1 => ?_)
  · replace h := h.1 q1
    refine ra_iconst E dL_alike_9 ki_0 ?_
    refine ra_istore_n (L' := [(2, _), (0, _), (1, _)]) E dL_alike_10 rfl (by decide) rfl ?_
    obtain ⟨n6, h⟩ := h
    exact ra_sub (L' := [(0, _), (1, _), (2, _)]) [1, 2, 0] rfl (l_L_alike_L11 a0 n0 h0 a1 n1 h1 E hr n6 _ _ h)
  · replace h := h.2 q1
    refine ra_iconst E dL_alike_7 ki_0 ?_
    exact ra_zret E hr rfl dL_alike_8 ⟨Or.inl rfl, h⟩
def f_DJ0_coder_7d493 (n9 : Nat) (M : TM) (K : Int32 → TM → Prop) : Prop := (narrow .byte (.int (M 700 1)) = .int (M 700 1)) ∧ K (M 700 1) M
set_option maxRecDepth 100000 in
set_option maxHeartbeats 4000000 in
theorem c_DJ0_coder_7d493 {ad : Nat → Nat} (h700 : 702 ≤ nW ad) (n9 : Nat) (h9 : ad 1701 = n9) (M : TM) (K : Int32 → TM → Prop) (h : f_DJ0_coder_7d493 n9 M K) : MI yJ0_coder_7d493 cJ0_coder_7d493 1 (some .byte) 0 ad [.ref (ad 700)] M K := by
  refine MI_of RJ0 rfl (by decide +kernel) (Nat.le_of_ble_eq_true rfl) (fun p l e s m below meth c D tc E hr => ?_)
  unfold f_DJ0_coder_7d493 at h
  refine gs_comp E fl_J0_38 dJ0_coder_7d493_0 ?_
  refine ra_if_eq (tgt := 13) E dJ0_coder_7d493_3 (by decide) (fun q => absurd q (by decide)) (fun _ => ?_)
  refine ra_aload_n E dJ0_coder_7d493_6 rfl 0 rfl ?_
  refine gf_J0_1 E (Nat.lt_of_lt_of_le (by decide) h700) fl_J0_15 dJ0_coder_7d493_7 ?_
  refine ra_goto (tgt := 14) E dJ0_coder_7d493_10 (by decide) ?_
  obtain ⟨b2, h⟩ := h
  exact ra_zret E hr b2 dJ0_coder_7d493_14 h
def f_DJ0_isLatin1_aae02 (n9 : Nat) (M : TM) (K : Int32 → TM → Prop) : Prop := ((¬ (M 700 1) = 0 → K (0 : Int32) M) ∧ ((M 700 1) = 0 → K (1 : Int32) M))
set_option maxRecDepth 100000 in
set_option maxHeartbeats 4000000 in
theorem c_DJ0_isLatin1_aae02 {ad : Nat → Nat} (h700 : 702 ≤ nW ad) (n9 : Nat) (h9 : ad 1701 = n9) (M : TM) (K : Int32 → TM → Prop) (h : f_DJ0_isLatin1_aae02 n9 M K) : MI yJ0_isLatin1_aae02 cJ0_isLatin1_aae02 1 (some .boolean) 0 ad [.ref (ad 700)] M (fun r M' => (r = 0 ∨ r = 1) ∧ K r M') := by
  refine MI_of RJ0 rfl (by decide +kernel) (Nat.le_of_ble_eq_true rfl) (fun p l e s m below meth c D tc E hr => ?_)
  unfold f_DJ0_isLatin1_aae02 at h
  refine gs_comp E fl_J0_38 dJ0_isLatin1_aae02_0 ?_
  refine ra_if_eq (tgt := 17) E dJ0_isLatin1_aae02_3 (by decide) (fun q => absurd q (by decide)) (fun _ => ?_)
  refine ra_aload_n E dJ0_isLatin1_aae02_6 rfl 0 rfl ?_
  refine gf_J0_1 E (Nat.lt_of_lt_of_le (by decide) h700) fl_J0_15 dJ0_isLatin1_aae02_7 ?_
  refine ra_if_ne (tgt := 17) E dJ0_isLatin1_aae02_10 (by decide) (fun q2 => ?_) (fun q2 => ?_)
  · replace h := h.1 q2
    refine ra_iconst E dJ0_isLatin1_aae02_17 ki_0 ?_
    exact ra_zret E hr rfl dJ0_isLatin1_aae02_18 ⟨Or.inl rfl, h⟩
  · replace h := h.2 q2
    refine ra_iconst E dJ0_isLatin1_aae02_13 ki_1 ?_
    refine ra_goto (tgt := 18) E dJ0_isLatin1_aae02_14 (by decide) ?_
    exact ra_zret E hr rfl dJ0_isLatin1_aae02_18 ⟨Or.inr rfl, h⟩
def f_X2_clear_L73 (a0 : Nat) (p1 : Int32) (K : TM → Prop) : Nat → Int32 → TM → Prop
  | 0, _, _ => False
  | n + 1, x2, M => (((16 : Int32) ≤ x2 → K M) ∧ (¬ (16 : Int32) ≤ x2 → vp_in x2 16 ∧ ∀ M13, M13 = u2 M (a0 + 2) x2.toNatClampNeg (0 : Int32) → vp_in x2 16 ∧ ∀ M15, M15 = u2 M13 (a0 + 3) x2.toNatClampNeg (0 : Int32) → f_X2_clear_L73 a0 p1 K n (x2 + 1) M15))
set_option maxRecDepth 100000 in
set_option maxHeartbeats 4000000 in
theorem l_X2_clear_L73 {p : Program} {l : Launch} {e : Env} {s : State} {m : MethodId} {args : Array Value} {below : List Frame} {meth : Method} {c : Code} {D : va_G} {tc : Nat → ClassId} {ad : Nat → Nat} (a0 : Nat) (h0 : IsCanal a0) (p1 : Int32) {K : TM → Prop} (E : Ev p s m args meth c D tc ad RX2 cX2_clear 3) (hr : meth.sig.returnType = none) : ∀ (n : Nat) (x2 : Int32) (M : TM) , f_X2_clear_L73 a0 p1 K n x2 M → Wa p l e (rmD 1) s m args below meth c 0 0 (MQ below (va_Qv K (EndW D tc ad) (A0 ad s.heap.size)) args s 0 0 (A0 ad s.heap.size)) D tc ad 3 M 73 [(0, .ref (ad a0)), (2, .int x2)] [] := by
  intro n
  induction n with
  | zero => intro x2 M  h; exact h.elim
  | succ n ih =>
    intro x2 M  h
    unfold f_X2_clear_L73 at h
    refine ra_iload_n E dX2_clear_73 rfl 1 rfl ?_
    refine ra_aload_n E dX2_clear_74 rfl 0 rfl ?_
    refine gf_X2_2 E h0 fl_X2_21 dX2_clear_75 ?_
    refine ra_alen (n := 16) (v := 16) E (lm (h0.add (by decide))) (fun R => ⟨_, (cel_used tc ad h0) R, rfl⟩) rfl (by decide) dX2_clear_78 ?_
    refine ra_icmp_ge (tgt := 102) E dX2_clear_79 (by decide) (fun q11 => ?_) (fun q11 => ?_)
    · replace h := h.1 q11
      exact ra_vret E hr dX2_clear_102 h
    · replace h := h.2 q11
      refine ra_aload_n E dX2_clear_82 rfl 0 rfl ?_
      refine gf_X2_2 E h0 fl_X2_21 dX2_clear_83 ?_
      refine ra_iload_n E dX2_clear_86 rfl 1 rfl ?_
      refine ra_iconst E dX2_clear_87 ki_0 ?_
      obtain ⟨g12, h⟩ := h
      refine ra_iast E (lm (h0.add (by decide))) (cel_used tc ad h0) g12 dX2_clear_88 ?_
      replace h := h _ rfl
      refine ra_aload_n E dX2_clear_89 rfl 0 rfl ?_
      refine gf_X2_3 E h0 fl_X2_25 dX2_clear_90 ?_
      refine ra_iload_n E dX2_clear_93 rfl 1 rfl ?_
      refine ra_iconst E dX2_clear_94 ki_0 ?_
      obtain ⟨g14, h⟩ := h
      refine ra_iast E (lm (h0.add (by decide))) (cel_eat tc ad h0) g14 dX2_clear_95 ?_
      replace h := h _ rfl
      refine ra_iinc1 (L' := [(2, _), (0, _)]) E dX2_clear_96 1 rfl (by decide) rfl ?_
      refine ra_goto (tgt := 73) E dX2_clear_99 (by decide) ?_
      exact ra_sub (L' := [(0, _), (2, _)]) [1, 0] rfl (ih _ _ h)
def f_X2_clear_L47 (a0 : Nat) (p1 : Int32) (K : TM → Prop) : Nat → Int32 → TM → Prop
  | 0, _, _ => False
  | n + 1, x2, M => (((15 : Int32) ≤ x2 → ∃ n73, f_X2_clear_L73 a0 p1 K n73 (0 : Int32) M) ∧ (¬ (15 : Int32) ≤ x2 → vp_in x2 15 ∧ f_X9_clear (a0 + 6 + x2.toNatClampNeg) M (fun M18 => f_X2_clear_L47 a0 p1 K n (x2 + 1) M18)))
set_option maxRecDepth 100000 in
set_option maxHeartbeats 4000000 in
theorem l_X2_clear_L47 {p : Program} {l : Launch} {e : Env} {s : State} {m : MethodId} {args : Array Value} {below : List Frame} {meth : Method} {c : Code} {D : va_G} {tc : Nat → ClassId} {ad : Nat → Nat} (a0 : Nat) (h0 : IsCanal a0) (p1 : Int32) {K : TM → Prop} (E : Ev p s m args meth c D tc ad RX2 cX2_clear 3) (hr : meth.sig.returnType = none) : ∀ (n : Nat) (x2 : Int32) (M : TM) , f_X2_clear_L47 a0 p1 K n x2 M → Wa p l e (rmD 1) s m args below meth c 0 0 (MQ below (va_Qv K (EndW D tc ad) (A0 ad s.heap.size)) args s 0 0 (A0 ad s.heap.size)) D tc ad 3 M 47 [(0, .ref (ad a0)), (2, .int x2)] [] := by
  intro n
  induction n with
  | zero => intro x2 M  h; exact h.elim
  | succ n ih =>
    intro x2 M  h
    unfold f_X2_clear_L47 at h
    refine ra_iload_n E dX2_clear_47 rfl 1 rfl ?_
    refine ra_aload_n E dX2_clear_48 rfl 0 rfl ?_
    refine gf_X2_1 E h0 fl_X2_17 dX2_clear_49 ?_
    refine ra_alen (n := 15) (v := 15) E (lm (h0.add (by decide))) (fun R => ⟨_, (cel_secs tc ad h0) R, rfl⟩) rfl (by decide) dX2_clear_52 ?_
    refine ra_icmp_ge (tgt := 71) E dX2_clear_53 (by decide) (fun q10 => ?_) (fun q10 => ?_)
    · replace h := h.1 q10
      refine ra_iconst E dX2_clear_71 ki_0 ?_
      refine ra_istore_n (L' := [(2, _), (0, _)]) E dX2_clear_72 rfl (by decide) rfl ?_
      obtain ⟨n16, h⟩ := h
      exact ra_sub (L' := [(0, _), (2, _)]) [1, 0] rfl (l_X2_clear_L73 a0 h0 p1 E hr n16 _ _ h)
    · replace h := h.2 q10
      refine ra_aload_n E dX2_clear_56 rfl 0 rfl ?_
      refine gf_X2_1 E h0 fl_X2_17 dX2_clear_57 ?_
      refine ra_iload_n E dX2_clear_60 rfl 1 rfl ?_
      obtain ⟨g17, h⟩ := h
      refine ra_aald E (lm (h0.add (by decide))) (cel_secs tc ad h0) rfl g17 dX2_clear_61 ?_
      refine ra_callVV (rest := []) E (c_X9_clear _ (isSec_of h0 g17) _ _ h) (lq_X9 _) cv_X9_clear ml_X2_67 (by decide) (lm (isSec_of h0 g17).lt) (fun R => ⟨_, cel_sec tc ad (isSec_of h0 g17) R⟩) rfl rfl rfl (Nat.le_of_ble_eq_true rfl) ⟨Nat.le_of_ble_eq_true rfl, Nat.le_of_ble_eq_true rfl⟩ ⟨Nat.zero_le _, Nat.zero_le _⟩ dX2_clear_62 (fun M18 h => ?_)
      refine ra_iinc1 (L' := [(2, _), (0, _)]) E dX2_clear_65 1 rfl (by decide) rfl ?_
      refine ra_goto (tgt := 47) E dX2_clear_68 (by decide) ?_
      exact ra_sub (L' := [(0, _), (2, _)]) [1, 0] rfl (ih _ _ h)
def f_X2_clear (a0 : Nat) (p1 : Int32) (M : TM) (K : TM → Prop) : Prop := ∀ M1, M1 = u2 M a0 0 p1 → ∀ M2, M2 = u2 M1 a0 4 (0 : Int32) → ∀ M3, M3 = u2 M2 a0 6 (0 : Int32) → ∀ M4, M4 = u2 M3 a0 8 (0 : Int32) → ∀ M5, M5 = u2 M4 a0 9 (0 : Int32) → ∀ M6, M6 = u2 M5 a0 10 (0 : Int32) → ∀ M7, M7 = u2 M6 a0 11 (0 : Int32) → ∀ M8, M8 = u2 M7 a0 12 (0 : Int32) → ∀ M9, M9 = u2 M8 a0 13 (0 : Int32) → ∃ n47, f_X2_clear_L47 a0 p1 K n47 (0 : Int32) M9
set_option maxRecDepth 100000 in
set_option maxHeartbeats 4000000 in
theorem c_X2_clear {ad : Nat → Nat} (a0 : Nat) (h0 : IsCanal a0) (p1 : Int32) (M : TM) (K : TM → Prop) (h : f_X2_clear a0 p1 M K) : MV yX2_clear cX2_clear 3 1 ad [.ref (ad a0), .int p1] M K := by
  refine MV_of RX2 rfl (by decide +kernel) (Nat.le_of_ble_eq_true rfl) (fun p l e s m below meth c D tc E hr => ?_)
  unfold f_X2_clear at h
  refine ra_aload_n E dX2_clear_0 rfl 0 rfl ?_
  refine ra_iload_n E dX2_clear_1 rfl 1 rfl ?_
  refine pf_X2_0 E h0 fl_X2_9 dX2_clear_2 ?_
  replace h := h _ rfl
  refine ra_aload_n E dX2_clear_5 rfl 0 rfl ?_
  refine ra_iconst E dX2_clear_6 ki_0 ?_
  refine pf_X2_4 E h0 fl_X2_28 dX2_clear_7 ?_
  replace h := h _ rfl
  refine ra_aload_n E dX2_clear_10 rfl 0 rfl ?_
  refine ra_iconst E dX2_clear_11 ki_0 ?_
  refine pf_X2_6 E h0 fl_X2_37 dX2_clear_12 ?_
  replace h := h _ rfl
  refine ra_aload_n E dX2_clear_15 rfl 0 rfl ?_
  refine ra_iconst E dX2_clear_16 ki_0 ?_
  refine pf_X2_8 E h0 fl_X2_46 dX2_clear_17 ?_
  replace h := h _ rfl
  refine ra_aload_n E dX2_clear_20 rfl 0 rfl ?_
  refine ra_iconst E dX2_clear_21 ki_0 ?_
  refine pf_X2_9 E h0 fl_X2_49 dX2_clear_22 ?_
  replace h := h _ rfl
  refine ra_aload_n E dX2_clear_25 rfl 0 rfl ?_
  refine ra_iconst E dX2_clear_26 ki_0 ?_
  refine pf_X2_10 E h0 fl_X2_52 dX2_clear_27 ?_
  replace h := h _ rfl
  refine ra_aload_n E dX2_clear_30 rfl 0 rfl ?_
  refine ra_iconst E dX2_clear_31 ki_0 ?_
  refine pf_X2_11 E h0 fl_X2_55 dX2_clear_32 ?_
  replace h := h _ rfl
  refine ra_aload_n E dX2_clear_35 rfl 0 rfl ?_
  refine ra_iconst E dX2_clear_36 ki_0 ?_
  refine pf_X2_12 E h0 fl_X2_58 dX2_clear_37 ?_
  replace h := h _ rfl
  refine ra_aload_n E dX2_clear_40 rfl 0 rfl ?_
  refine ra_iconst E dX2_clear_41 ki_0 ?_
  refine pf_X2_13 E h0 fl_X2_61 dX2_clear_42 ?_
  replace h := h _ rfl
  refine ra_iconst E dX2_clear_45 ki_0 ?_
  refine ra_istore_n (L' := [(2, _), (0, _), (1, _)]) E dX2_clear_46 rfl (by decide) rfl ?_
  obtain ⟨n19, h⟩ := h
  exact ra_sub (L' := [(0, _), (2, _)]) [1, 0] rfl (l_X2_clear_L47 a0 h0 p1 E hr n19 _ _ h)
def f_X2_copyFrom_L173 (a0 : Nat) (a1 : Nat) (K : TM → Prop) : Nat → Int32 → TM → Prop
  | 0, _, _ => False
  | n + 1, x2, M => (((M a0 6) ≤ x2 → K M) ∧ (¬ (M a0 6) ≤ x2 → vp_in x2 30 ∧ vp_in x2 30 ∧ f_X6_copyFrom (a0 + 31 + x2.toNatClampNeg) (a1 + 31 + x2.toNatClampNeg) M (fun M19 => f_X2_copyFrom_L173 a0 a1 K n (x2 + 1) M19)))
set_option maxRecDepth 100000 in
set_option maxHeartbeats 4000000 in
theorem l_X2_copyFrom_L173 {p : Program} {l : Launch} {e : Env} {s : State} {m : MethodId} {args : Array Value} {below : List Frame} {meth : Method} {c : Code} {D : va_G} {tc : Nat → ClassId} {ad : Nat → Nat} (a0 : Nat) (h0 : IsCanal a0) (a1 : Nat) (h1 : IsCanal a1) {K : TM → Prop} (E : Ev p s m args meth c D tc ad RX2 cX2_copyFrom 3) (hr : meth.sig.returnType = none) : ∀ (n : Nat) (x2 : Int32) (M : TM) , f_X2_copyFrom_L173 a0 a1 K n x2 M → Wa p l e (rmD 2) s m args below meth c 0 0 (MQ below (va_Qv K (EndW D tc ad) (A0 ad s.heap.size)) args s 0 0 (A0 ad s.heap.size)) D tc ad 3 M 173 [(0, .ref (ad a0)), (1, .ref (ad a1)), (2, .int x2)] [] := by
  intro n
  induction n with
  | zero => intro x2 M  h; exact h.elim
  | succ n ih =>
    intro x2 M  h
    unfold f_X2_copyFrom_L173 at h
    refine ra_iload_n E dX2_copyFrom_173 rfl 2 rfl ?_
    refine ra_aload_n E dX2_copyFrom_174 rfl 0 rfl ?_
    refine gf_X2_6 E h0 fl_X2_37 dX2_copyFrom_175 ?_
    refine ra_icmp_ge (tgt := 202) E dX2_copyFrom_178 (by decide) (fun q16 => ?_) (fun q16 => ?_)
    · replace h := h.1 q16
      exact ra_vret E hr dX2_copyFrom_202 h
    · replace h := h.2 q16
      refine ra_aload_n E dX2_copyFrom_181 rfl 0 rfl ?_
      refine gf_X2_7 E h0 fl_X2_42 dX2_copyFrom_182 ?_
      refine ra_iload_n E dX2_copyFrom_185 rfl 2 rfl ?_
      obtain ⟨g17, h⟩ := h
      refine ra_aald E (lm (h0.add (by decide))) (cel_ords tc ad h0) rfl g17 dX2_copyFrom_186 ?_
      refine ra_aload_n E dX2_copyFrom_187 rfl 1 rfl ?_
      refine gf_X2_7 E h1 fl_X2_42 dX2_copyFrom_188 ?_
      refine ra_iload_n E dX2_copyFrom_191 rfl 2 rfl ?_
      obtain ⟨g18, h⟩ := h
      refine ra_aald E (lm (h1.add (by decide))) (cel_ords tc ad h1) rfl g18 dX2_copyFrom_192 ?_
      refine ra_callVV (rest := []) E (c_X6_copyFrom _ (isOrder_of h0 g17) _ (isOrder_of h1 g18) _ _ h) (lq_X6 _) cv_X6_copyFrom ml_X2_83 (by decide) (lm (isOrder_of h0 g17).lt) (fun R => ⟨_, cel_order tc ad (isOrder_of h0 g17) R⟩) rfl rfl rfl (Nat.le_of_ble_eq_true rfl) ⟨Nat.le_of_ble_eq_true rfl, Nat.le_of_ble_eq_true rfl⟩ ⟨Nat.zero_le _, Nat.zero_le _⟩ dX2_copyFrom_193 (fun M19 h => ?_)
      refine ra_iinc1 (L' := [(2, _), (0, _), (1, _)]) E dX2_copyFrom_196 2 rfl (by decide) rfl ?_
      refine ra_goto (tgt := 173) E dX2_copyFrom_199 (by decide) ?_
      exact ra_sub (L' := [(0, _), (1, _), (2, _)]) [1, 2, 0] rfl (ih _ _ h)
def f_X2_copyFrom_L142 (a0 : Nat) (a1 : Nat) (K : TM → Prop) : Nat → Int32 → TM → Prop
  | 0, _, _ => False
  | n + 1, x2, M => (((M a0 4) ≤ x2 → ∃ n173, f_X2_copyFrom_L173 a0 a1 K n173 (0 : Int32) M) ∧ (¬ (M a0 4) ≤ x2 → vp_in x2 5 ∧ vp_in x2 5 ∧ f_X1_copyFrom (a0 + 21 + 2 * x2.toNatClampNeg) (a1 + 21 + 2 * x2.toNatClampNeg) M (fun M23 => f_X2_copyFrom_L142 a0 a1 K n (x2 + 1) M23)))
set_option maxRecDepth 100000 in
set_option maxHeartbeats 4000000 in
theorem l_X2_copyFrom_L142 {p : Program} {l : Launch} {e : Env} {s : State} {m : MethodId} {args : Array Value} {below : List Frame} {meth : Method} {c : Code} {D : va_G} {tc : Nat → ClassId} {ad : Nat → Nat} (a0 : Nat) (h0 : IsCanal a0) (a1 : Nat) (h1 : IsCanal a1) {K : TM → Prop} (E : Ev p s m args meth c D tc ad RX2 cX2_copyFrom 3) (hr : meth.sig.returnType = none) : ∀ (n : Nat) (x2 : Int32) (M : TM) , f_X2_copyFrom_L142 a0 a1 K n x2 M → Wa p l e (rmD 2) s m args below meth c 0 0 (MQ below (va_Qv K (EndW D tc ad) (A0 ad s.heap.size)) args s 0 0 (A0 ad s.heap.size)) D tc ad 3 M 142 [(0, .ref (ad a0)), (1, .ref (ad a1)), (2, .int x2)] [] := by
  intro n
  induction n with
  | zero => intro x2 M  h; exact h.elim
  | succ n ih =>
    intro x2 M  h
    unfold f_X2_copyFrom_L142 at h
    refine ra_iload_n E dX2_copyFrom_142 rfl 2 rfl ?_
    refine ra_aload_n E dX2_copyFrom_143 rfl 0 rfl ?_
    refine gf_X2_4 E h0 fl_X2_28 dX2_copyFrom_144 ?_
    refine ra_icmp_ge (tgt := 171) E dX2_copyFrom_147 (by decide) (fun q15 => ?_) (fun q15 => ?_)
    · replace h := h.1 q15
      refine ra_iconst E dX2_copyFrom_171 ki_0 ?_
      refine ra_istore_n (L' := [(2, _), (0, _), (1, _)]) E dX2_copyFrom_172 rfl (by decide) rfl ?_
      obtain ⟨n20, h⟩ := h
      exact ra_sub (L' := [(0, _), (1, _), (2, _)]) [1, 2, 0] rfl (l_X2_copyFrom_L173 a0 h0 a1 h1 E hr n20 _ _ h)
    · replace h := h.2 q15
      refine ra_aload_n E dX2_copyFrom_150 rfl 0 rfl ?_
      refine gf_X2_5 E h0 fl_X2_33 dX2_copyFrom_151 ?_
      refine ra_iload_n E dX2_copyFrom_154 rfl 2 rfl ?_
      obtain ⟨g21, h⟩ := h
      refine ra_aald E (lm (h0.add (by decide))) (cel_bars tc ad h0) rfl g21 dX2_copyFrom_155 ?_
      refine ra_aload_n E dX2_copyFrom_156 rfl 1 rfl ?_
      refine gf_X2_5 E h1 fl_X2_33 dX2_copyFrom_157 ?_
      refine ra_iload_n E dX2_copyFrom_160 rfl 2 rfl ?_
      obtain ⟨g22, h⟩ := h
      refine ra_aald E (lm (h1.add (by decide))) (cel_bars tc ad h1) rfl g22 dX2_copyFrom_161 ?_
      refine ra_callVV (rest := []) E (c_X1_copyFrom _ (isBarge_of h0 g21) _ (isBarge_of h1 g22) _ _ h) (lq_X1 _) cv_X1_copyFrom ml_X2_80 (by decide) (lm (Nat.lt_of_succ_lt (isBarge_of h0 g21).lt)) (fun R => ⟨_, cel_barge tc ad (isBarge_of h0 g21) R⟩) rfl rfl rfl (Nat.le_of_ble_eq_true rfl) ⟨Nat.le_of_ble_eq_true rfl, Nat.le_of_ble_eq_true rfl⟩ ⟨Nat.zero_le _, Nat.zero_le _⟩ dX2_copyFrom_162 (fun M23 h => ?_)
      refine ra_iinc1 (L' := [(2, _), (0, _), (1, _)]) E dX2_copyFrom_165 2 rfl (by decide) rfl ?_
      refine ra_goto (tgt := 142) E dX2_copyFrom_168 (by decide) ?_
      exact ra_sub (L' := [(0, _), (1, _), (2, _)]) [1, 2, 0] rfl (ih _ _ h)
def f_X2_copyFrom_L74 (a0 : Nat) (a1 : Nat) (K : TM → Prop) : Nat → Int32 → TM → Prop
  | 0, _, _ => False
  | n + 1, x2, M => (((15 : Int32) ≤ x2 → (¬ (0 : Int32) < 0 ∧ ¬ (0 : Int32) < 0 ∧ ¬ (16 : Int32) < 0 ∧ (0 : Int32).toNatClampNeg + (16 : Int32).toNatClampNeg ≤ 16 ∧ (0 : Int32).toNatClampNeg + (16 : Int32).toNatClampNeg ≤ 16) ∧ ∀ M12, M12 = uR M (a0 + 2) (va_cpy (M (a1 + 2)) (M (a0 + 2)) (0 : Int32).toNatClampNeg (0 : Int32).toNatClampNeg (16 : Int32).toNatClampNeg) → (¬ (0 : Int32) < 0 ∧ ¬ (0 : Int32) < 0 ∧ ¬ (16 : Int32) < 0 ∧ (0 : Int32).toNatClampNeg + (16 : Int32).toNatClampNeg ≤ 16 ∧ (0 : Int32).toNatClampNeg + (16 : Int32).toNatClampNeg ≤ 16) ∧ ∀ M14, M14 = uR M12 (a0 + 3) (va_cpy (M12 (a1 + 3)) (M12 (a0 + 3)) (0 : Int32).toNatClampNeg (0 : Int32).toNatClampNeg (16 : Int32).toNatClampNeg) → ∃ n142, f_X2_copyFrom_L142 a0 a1 K n142 (0 : Int32) M14) ∧ (¬ (15 : Int32) ≤ x2 → vp_in x2 15 ∧ vp_in x2 15 ∧ f_X9_copyFrom (a0 + 6 + x2.toNatClampNeg) (a1 + 6 + x2.toNatClampNeg) M (fun M27 => f_X2_copyFrom_L74 a0 a1 K n (x2 + 1) M27)))
set_option maxRecDepth 100000 in
set_option maxHeartbeats 4000000 in
theorem l_X2_copyFrom_L74 {p : Program} {l : Launch} {e : Env} {s : State} {m : MethodId} {args : Array Value} {below : List Frame} {meth : Method} {c : Code} {D : va_G} {tc : Nat → ClassId} {ad : Nat → Nat} (a0 : Nat) (h0 : IsCanal a0) (a1 : Nat) (h1 : IsCanal a1) {K : TM → Prop} (E : Ev p s m args meth c D tc ad RX2 cX2_copyFrom 3) (hr : meth.sig.returnType = none) : ∀ (n : Nat) (x2 : Int32) (M : TM) , f_X2_copyFrom_L74 a0 a1 K n x2 M → Wa p l e (rmD 2) s m args below meth c 0 0 (MQ below (va_Qv K (EndW D tc ad) (A0 ad s.heap.size)) args s 0 0 (A0 ad s.heap.size)) D tc ad 3 M 74 [(0, .ref (ad a0)), (1, .ref (ad a1)), (2, .int x2)] [] := by
  intro n
  induction n with
  | zero => intro x2 M  h; exact h.elim
  | succ n ih =>
    intro x2 M  h
    unfold f_X2_copyFrom_L74 at h
    refine ra_iload_n E dX2_copyFrom_74 rfl 2 rfl ?_
    refine ra_aload_n E dX2_copyFrom_75 rfl 0 rfl ?_
    refine gf_X2_1 E h0 fl_X2_17 dX2_copyFrom_76 ?_
    refine ra_alen (n := 15) (v := 15) E (lm (h0.add (by decide))) (fun R => ⟨_, (cel_secs tc ad h0) R, rfl⟩) rfl (by decide) dX2_copyFrom_79 ?_
    refine ra_icmp_ge (tgt := 104) E dX2_copyFrom_80 (by decide) (fun q10 => ?_) (fun q10 => ?_)
    · replace h := h.1 q10
      refine ra_aload_n E dX2_copyFrom_104 rfl 1 rfl ?_
      refine gf_X2_2 E h1 fl_X2_21 dX2_copyFrom_105 ?_
      refine ra_iconst E dX2_copyFrom_108 ki_0 ?_
      refine ra_aload_n E dX2_copyFrom_109 rfl 0 rfl ?_
      refine gf_X2_2 E h0 fl_X2_21 dX2_copyFrom_110 ?_
      refine ra_iconst E dX2_copyFrom_113 ki_0 ?_
      refine ra_aload_n E dX2_copyFrom_114 rfl 0 rfl ?_
      refine gf_X2_2 E h0 fl_X2_21 dX2_copyFrom_115 ?_
      refine ra_alen (n := 16) (v := 16) E (lm (h0.add (by decide))) (fun R => ⟨_, (cel_used tc ad h0) R, rfl⟩) rfl (by decide) dX2_copyFrom_118 ?_
      obtain ⟨g11, h⟩ := h
      refine ra_copyi E (lm (h1.add (by decide))) (cel_used tc ad h1) (lm (h0.add (by decide))) (cel_used tc ad h0) g11 ml_X2_74 ⟨Nat.le_of_ble_eq_true rfl, Nat.le_of_ble_eq_true rfl⟩ dX2_copyFrom_119 ?_
      replace h := h _ rfl
      refine ra_aload_n E dX2_copyFrom_122 rfl 1 rfl ?_
      refine gf_X2_3 E h1 fl_X2_25 dX2_copyFrom_123 ?_
      refine ra_iconst E dX2_copyFrom_126 ki_0 ?_
      refine ra_aload_n E dX2_copyFrom_127 rfl 0 rfl ?_
      refine gf_X2_3 E h0 fl_X2_25 dX2_copyFrom_128 ?_
      refine ra_iconst E dX2_copyFrom_131 ki_0 ?_
      refine ra_aload_n E dX2_copyFrom_132 rfl 0 rfl ?_
      refine gf_X2_3 E h0 fl_X2_25 dX2_copyFrom_133 ?_
      refine ra_alen (n := 16) (v := 16) E (lm (h0.add (by decide))) (fun R => ⟨_, (cel_eat tc ad h0) R, rfl⟩) rfl (by decide) dX2_copyFrom_136 ?_
      obtain ⟨g13, h⟩ := h
      refine ra_copyi E (lm (h1.add (by decide))) (cel_eat tc ad h1) (lm (h0.add (by decide))) (cel_eat tc ad h0) g13 ml_X2_74 ⟨Nat.le_of_ble_eq_true rfl, Nat.le_of_ble_eq_true rfl⟩ dX2_copyFrom_137 ?_
      replace h := h _ rfl
      refine ra_iconst E dX2_copyFrom_140 ki_0 ?_
      refine ra_istore_n (L' := [(2, _), (0, _), (1, _)]) E dX2_copyFrom_141 rfl (by decide) rfl ?_
      obtain ⟨n24, h⟩ := h
      exact ra_sub (L' := [(0, _), (1, _), (2, _)]) [1, 2, 0] rfl (l_X2_copyFrom_L142 a0 h0 a1 h1 E hr n24 _ _ h)
    · replace h := h.2 q10
      refine ra_aload_n E dX2_copyFrom_83 rfl 0 rfl ?_
      refine gf_X2_1 E h0 fl_X2_17 dX2_copyFrom_84 ?_
      refine ra_iload_n E dX2_copyFrom_87 rfl 2 rfl ?_
      obtain ⟨g25, h⟩ := h
      refine ra_aald E (lm (h0.add (by decide))) (cel_secs tc ad h0) rfl g25 dX2_copyFrom_88 ?_
      refine ra_aload_n E dX2_copyFrom_89 rfl 1 rfl ?_
      refine gf_X2_1 E h1 fl_X2_17 dX2_copyFrom_90 ?_
      refine ra_iload_n E dX2_copyFrom_93 rfl 2 rfl ?_
      obtain ⟨g26, h⟩ := h
      refine ra_aald E (lm (h1.add (by decide))) (cel_secs tc ad h1) rfl g26 dX2_copyFrom_94 ?_
      refine ra_callVV (rest := []) E (c_X9_copyFrom _ (isSec_of h0 g25) _ (isSec_of h1 g26) _ _ h) (lq_X9 _) cv_X9_copyFrom ml_X2_70 (by decide) (lm (isSec_of h0 g25).lt) (fun R => ⟨_, cel_sec tc ad (isSec_of h0 g25) R⟩) rfl rfl rfl (Nat.le_of_ble_eq_true rfl) ⟨Nat.le_of_ble_eq_true rfl, Nat.le_of_ble_eq_true rfl⟩ ⟨Nat.zero_le _, Nat.zero_le _⟩ dX2_copyFrom_95 (fun M27 h => ?_)
      refine ra_iinc1 (L' := [(2, _), (0, _), (1, _)]) E dX2_copyFrom_98 2 rfl (by decide) rfl ?_
      refine ra_goto (tgt := 74) E dX2_copyFrom_101 (by decide) ?_
      exact ra_sub (L' := [(0, _), (1, _), (2, _)]) [1, 2, 0] rfl (ih _ _ h)
def f_X2_copyFrom (a0 : Nat) (a1 : Nat) (M : TM) (K : TM → Prop) : Prop := ∀ M1, M1 = u2 M a0 0 (M a1 0) → ∀ M2, M2 = u2 M1 a0 4 (M1 a1 4) → ∀ M3, M3 = u2 M2 a0 6 (M2 a1 6) → ∀ M4, M4 = u2 M3 a0 8 (M3 a1 8) → ∀ M5, M5 = u2 M4 a0 9 (M4 a1 9) → ∀ M6, M6 = u2 M5 a0 10 (M5 a1 10) → ∀ M7, M7 = u2 M6 a0 11 (M6 a1 11) → ∀ M8, M8 = u2 M7 a0 12 (M7 a1 12) → ∀ M9, M9 = u2 M8 a0 13 (M8 a1 13) → ∃ n74, f_X2_copyFrom_L74 a0 a1 K n74 (0 : Int32) M9
set_option maxRecDepth 100000 in
set_option maxHeartbeats 4000000 in
theorem c_X2_copyFrom {ad : Nat → Nat} (a0 : Nat) (h0 : IsCanal a0) (a1 : Nat) (h1 : IsCanal a1) (M : TM) (K : TM → Prop) (h : f_X2_copyFrom a0 a1 M K) : MV yX2_copyFrom cX2_copyFrom 3 2 ad [.ref (ad a0), .ref (ad a1)] M K := by
  refine MV_of RX2 rfl (by decide +kernel) (Nat.le_of_ble_eq_true rfl) (fun p l e s m below meth c D tc E hr => ?_)
  unfold f_X2_copyFrom at h
  refine ra_aload_n E dX2_copyFrom_0 rfl 0 rfl ?_
  refine ra_aload_n E dX2_copyFrom_1 rfl 1 rfl ?_
  refine gf_X2_0 E h1 fl_X2_9 dX2_copyFrom_2 ?_
  refine pf_X2_0 E h0 fl_X2_9 dX2_copyFrom_5 ?_
  replace h := h _ rfl
  refine ra_aload_n E dX2_copyFrom_8 rfl 0 rfl ?_
  refine ra_aload_n E dX2_copyFrom_9 rfl 1 rfl ?_
  refine gf_X2_4 E h1 fl_X2_28 dX2_copyFrom_10 ?_
  refine pf_X2_4 E h0 fl_X2_28 dX2_copyFrom_13 ?_
  replace h := h _ rfl
  refine ra_aload_n E dX2_copyFrom_16 rfl 0 rfl ?_
  refine ra_aload_n E dX2_copyFrom_17 rfl 1 rfl ?_
  refine gf_X2_6 E h1 fl_X2_37 dX2_copyFrom_18 ?_
  refine pf_X2_6 E h0 fl_X2_37 dX2_copyFrom_21 ?_
  replace h := h _ rfl
  refine ra_aload_n E dX2_copyFrom_24 rfl 0 rfl ?_
  refine ra_aload_n E dX2_copyFrom_25 rfl 1 rfl ?_
  refine gf_X2_8 E h1 fl_X2_46 dX2_copyFrom_26 ?_
  refine pf_X2_8 E h0 fl_X2_46 dX2_copyFrom_29 ?_
  replace h := h _ rfl
  refine ra_aload_n E dX2_copyFrom_32 rfl 0 rfl ?_
  refine ra_aload_n E dX2_copyFrom_33 rfl 1 rfl ?_
  refine gf_X2_9 E h1 fl_X2_49 dX2_copyFrom_34 ?_
  refine pf_X2_9 E h0 fl_X2_49 dX2_copyFrom_37 ?_
  replace h := h _ rfl
  refine ra_aload_n E dX2_copyFrom_40 rfl 0 rfl ?_
  refine ra_aload_n E dX2_copyFrom_41 rfl 1 rfl ?_
  refine gf_X2_10 E h1 fl_X2_52 dX2_copyFrom_42 ?_
  refine pf_X2_10 E h0 fl_X2_52 dX2_copyFrom_45 ?_
  replace h := h _ rfl
  refine ra_aload_n E dX2_copyFrom_48 rfl 0 rfl ?_
  refine ra_aload_n E dX2_copyFrom_49 rfl 1 rfl ?_
  refine gf_X2_11 E h1 fl_X2_55 dX2_copyFrom_50 ?_
  refine pf_X2_11 E h0 fl_X2_55 dX2_copyFrom_53 ?_
  replace h := h _ rfl
  refine ra_aload_n E dX2_copyFrom_56 rfl 0 rfl ?_
  refine ra_aload_n E dX2_copyFrom_57 rfl 1 rfl ?_
  refine gf_X2_12 E h1 fl_X2_58 dX2_copyFrom_58 ?_
  refine pf_X2_12 E h0 fl_X2_58 dX2_copyFrom_61 ?_
  replace h := h _ rfl
  refine ra_aload_n E dX2_copyFrom_64 rfl 0 rfl ?_
  refine ra_aload_n E dX2_copyFrom_65 rfl 1 rfl ?_
  refine gf_X2_13 E h1 fl_X2_61 dX2_copyFrom_66 ?_
  refine pf_X2_13 E h0 fl_X2_61 dX2_copyFrom_69 ?_
  replace h := h _ rfl
  refine ra_iconst E dX2_copyFrom_72 ki_0 ?_
  refine ra_istore_n (L' := [(2, _), (0, _), (1, _)]) E dX2_copyFrom_73 rfl (by decide) rfl ?_
  obtain ⟨n28, h⟩ := h
  exact ra_sub (L' := [(0, _), (1, _), (2, _)]) [1, 2, 0] rfl (l_X2_copyFrom_L74 a0 h0 a1 h1 E hr n28 _ _ h)
def f_X2_countOrdersAt_L4 (a0 : Nat) (p1 : Int32) (K : Int32 → TM → Prop) : Nat → Int32 → Int32 → Int32 → TM → Prop
  | 0, _, _, _, _ => False
  | n + 1, x1, x2, x3, M => (((M a0 6) ≤ x3 → K x2 M) ∧ (¬ (M a0 6) ≤ x3 → vp_in x3 30 ∧ ((¬ (M (a0 + 31 + x3.toNatClampNeg) 0) = x1 → f_X2_countOrdersAt_L4 a0 p1 K n x1 x2 (x3 + 1) M) ∧ ((M (a0 + 31 + x3.toNatClampNeg) 0) = x1 → vp_in x3 30 ∧ f_X6_canStillBeEaten (a0 + 31 + x3.toNatClampNeg) M (fun r6 M5 => ((r6 = 0 → f_X2_countOrdersAt_L4 a0 p1 K n x1 x2 (x3 + 1) M5) ∧ (¬ r6 = 0 → f_X2_countOrdersAt_L4 a0 p1 K n x1 (x2 + 1) (x3 + 1) M5)))))))
set_option maxRecDepth 100000 in
set_option maxHeartbeats 4000000 in
theorem l_X2_countOrdersAt_L4 {p : Program} {l : Launch} {e : Env} {s : State} {m : MethodId} {args : Array Value} {below : List Frame} {meth : Method} {c : Code} {D : va_G} {tc : Nat → ClassId} {ad : Nat → Nat} (a0 : Nat) (h0 : IsCanal a0) (p1 : Int32) {K : Int32 → TM → Prop} (E : Ev p s m args meth c D tc ad RX2 cX2_countOrdersAt 4) (hr : meth.sig.returnType = (some .int)) : ∀ (n : Nat) (x1 : Int32) (x2 : Int32) (x3 : Int32) (M : TM) , f_X2_countOrdersAt_L4 a0 p1 K n x1 x2 x3 M → Wa p l e (rmD 2) s m args below meth c 0 0 (MQ below (va_Qi K (EndW D tc ad) (A0 ad s.heap.size)) args s 0 0 (A0 ad s.heap.size)) D tc ad 4 M 4 [(0, .ref (ad a0)), (1, .int x1), (2, .int x2), (3, .int x3)] [] := by
  intro n
  induction n with
  | zero => intro x1 x2 x3 M  h; exact h.elim
  | succ n ih =>
    intro x1 x2 x3 M  h
    unfold f_X2_countOrdersAt_L4 at h
    refine ra_iload_n E dX2_countOrdersAt_4 rfl 3 rfl ?_
    refine ra_aload_n E dX2_countOrdersAt_5 rfl 0 rfl ?_
    refine gf_X2_6 E h0 fl_X2_37 dX2_countOrdersAt_6 ?_
    refine ra_icmp_ge (tgt := 46) E dX2_countOrdersAt_9 (by decide) (fun q1 => ?_) (fun q1 => ?_)
    · replace h := h.1 q1
      refine ra_iload_n E dX2_countOrdersAt_46 rfl 2 rfl ?_
      exact ra_iret E hr dX2_countOrdersAt_47 h
    · replace h := h.2 q1
      refine ra_aload_n E dX2_countOrdersAt_12 rfl 0 rfl ?_
      refine gf_X2_7 E h0 fl_X2_42 dX2_countOrdersAt_13 ?_
      refine ra_iload_n E dX2_countOrdersAt_16 rfl 3 rfl ?_
      obtain ⟨g2, h⟩ := h
      refine ra_aald E (lm (h0.add (by decide))) (cel_ords tc ad h0) rfl g2 dX2_countOrdersAt_17 ?_
      refine gf_X6_0 E (isOrder_of h0 g2) fl_X2_105 dX2_countOrdersAt_18 ?_
      refine ra_iload_n E dX2_countOrdersAt_21 rfl 1 rfl ?_
      refine ra_icmp_ne (tgt := 40) E dX2_countOrdersAt_22 (by decide) (fun q3 => ?_) (fun q3 => ?_)
      · replace h := h.1 q3
        refine ra_iinc1 (L' := [(3, _), (0, _), (1, _), (2, _)]) E dX2_countOrdersAt_40 3 rfl (by decide) rfl ?_
        refine ra_goto (tgt := 4) E dX2_countOrdersAt_43 (by decide) ?_
        exact ra_sub (L' := [(0, _), (1, _), (2, _), (3, _)]) [1, 2, 3, 0] rfl (ih _ _ _ _ h)
      · replace h := h.2 q3
        refine ra_aload_n E dX2_countOrdersAt_25 rfl 0 rfl ?_
        refine gf_X2_7 E h0 fl_X2_42 dX2_countOrdersAt_26 ?_
        refine ra_iload_n E dX2_countOrdersAt_29 rfl 3 rfl ?_
        obtain ⟨g4, h⟩ := h
        refine ra_aald E (lm (h0.add (by decide))) (cel_ords tc ad h0) rfl g4 dX2_countOrdersAt_30 ?_
        refine ra_callIV (rest := []) E (c_X6_canStillBeEaten _ (isOrder_of h0 g4) _ _ h) (lq_X6 _) cv_X6_canStillBeEaten ml_X2_106 (by decide) (lm (isOrder_of h0 g4).lt) (fun R => ⟨_, cel_order tc ad (isOrder_of h0 g4) R⟩) rfl rfl rfl (Nat.le_of_ble_eq_true rfl) ⟨Nat.le_of_ble_eq_true rfl, Nat.le_of_ble_eq_true rfl⟩ ⟨Nat.zero_le _, Nat.zero_le _⟩ dX2_countOrdersAt_31 (fun r6 M5 h => ?_)
        obtain ⟨b7, h⟩ := h
        refine ra_if_eq (tgt := 40) E dX2_countOrdersAt_34 (by decide) (fun q8 => ?_) (fun q8 => ?_)
        · replace h := h.1 q8
          refine ra_iinc1 (L' := [(3, _), (0, _), (1, _), (2, _)]) E dX2_countOrdersAt_40 3 rfl (by decide) rfl ?_
          refine ra_goto (tgt := 4) E dX2_countOrdersAt_43 (by decide) ?_
          exact ra_sub (L' := [(0, _), (1, _), (2, _), (3, _)]) [1, 2, 3, 0] rfl (ih _ _ _ _ h)
        · replace h := h.2 q8
          refine ra_iinc1 (L' := [(2, _), (0, _), (1, _), (3, _)]) E dX2_countOrdersAt_37 2 rfl (by decide) rfl ?_
          refine ra_iinc1 (L' := [(3, _), (2, _), (0, _), (1, _)]) E dX2_countOrdersAt_40 3 rfl (by decide) rfl ?_
          refine ra_goto (tgt := 4) E dX2_countOrdersAt_43 (by decide) ?_
          exact ra_sub (L' := [(0, _), (1, _), (2, _), (3, _)]) [2, 3, 1, 0] rfl (ih _ _ _ _ h)
def f_X2_countOrdersAt (a0 : Nat) (p1 : Int32) (M : TM) (K : Int32 → TM → Prop) : Prop := ∃ n4, f_X2_countOrdersAt_L4 a0 p1 K n4 p1 (0 : Int32) (0 : Int32) M
set_option maxRecDepth 100000 in
set_option maxHeartbeats 4000000 in
theorem c_X2_countOrdersAt {ad : Nat → Nat} (a0 : Nat) (h0 : IsCanal a0) (p1 : Int32) (M : TM) (K : Int32 → TM → Prop) (h : f_X2_countOrdersAt a0 p1 M K) : MI yX2_countOrdersAt cX2_countOrdersAt 4 (some .int) 2 ad [.ref (ad a0), .int p1] M K := by
  refine MI_of RX2 rfl (by decide +kernel) (Nat.le_of_ble_eq_true rfl) (fun p l e s m below meth c D tc E hr => ?_)
  unfold f_X2_countOrdersAt at h
  refine ra_iconst E dX2_countOrdersAt_0 ki_0 ?_
  refine ra_istore_n (L' := [(2, _), (0, _), (1, _)]) E dX2_countOrdersAt_1 rfl (by decide) rfl ?_
  refine ra_iconst E dX2_countOrdersAt_2 ki_0 ?_
  refine ra_istore_n (L' := [(3, _), (2, _), (0, _), (1, _)]) E dX2_countOrdersAt_3 rfl (by decide) rfl ?_
  obtain ⟨n9, h⟩ := h
  exact ra_sub (L' := [(0, _), (1, _), (2, _), (3, _)]) [2, 3, 1, 0] rfl (l_X2_countOrdersAt_L4 a0 h0 p1 E hr n9 _ _ _ _ h)
def f_X2_countHeldBy_L4 (a0 : Nat) (p1 : Int32) (K : Int32 → TM → Prop) : Nat → Int32 → Int32 → Int32 → TM → Prop
  | 0, _, _, _, _ => False
  | n + 1, x1, x2, x3, M => (((M a0 6) ≤ x3 → K x2 M) ∧ (¬ (M a0 6) ≤ x3 → vp_in x3 30 ∧ ((¬ (M (a0 + 31 + x3.toNatClampNeg) 7) = x1 → f_X2_countHeldBy_L4 a0 p1 K n x1 x2 (x3 + 1) M) ∧ ((M (a0 + 31 + x3.toNatClampNeg) 7) = x1 → vp_in x3 30 ∧ f_X6_isHeld (a0 + 31 + x3.toNatClampNeg) M (fun r6 M5 => ((r6 = 0 → f_X2_countHeldBy_L4 a0 p1 K n x1 x2 (x3 + 1) M5) ∧ (¬ r6 = 0 → f_X2_countHeldBy_L4 a0 p1 K n x1 (x2 + 1) (x3 + 1) M5)))))))
set_option maxRecDepth 100000 in
set_option maxHeartbeats 4000000 in
theorem l_X2_countHeldBy_L4 {p : Program} {l : Launch} {e : Env} {s : State} {m : MethodId} {args : Array Value} {below : List Frame} {meth : Method} {c : Code} {D : va_G} {tc : Nat → ClassId} {ad : Nat → Nat} (a0 : Nat) (h0 : IsCanal a0) (p1 : Int32) {K : Int32 → TM → Prop} (E : Ev p s m args meth c D tc ad RX2 cX2_countHeldBy 4) (hr : meth.sig.returnType = (some .int)) : ∀ (n : Nat) (x1 : Int32) (x2 : Int32) (x3 : Int32) (M : TM) , f_X2_countHeldBy_L4 a0 p1 K n x1 x2 x3 M → Wa p l e (rmD 1) s m args below meth c 0 0 (MQ below (va_Qi K (EndW D tc ad) (A0 ad s.heap.size)) args s 0 0 (A0 ad s.heap.size)) D tc ad 4 M 4 [(0, .ref (ad a0)), (1, .int x1), (2, .int x2), (3, .int x3)] [] := by
  intro n
  induction n with
  | zero => intro x1 x2 x3 M  h; exact h.elim
  | succ n ih =>
    intro x1 x2 x3 M  h
    unfold f_X2_countHeldBy_L4 at h
    refine ra_iload_n E dX2_countHeldBy_4 rfl 3 rfl ?_
    refine ra_aload_n E dX2_countHeldBy_5 rfl 0 rfl ?_
    refine gf_X2_6 E h0 fl_X2_37 dX2_countHeldBy_6 ?_
    refine ra_icmp_ge (tgt := 46) E dX2_countHeldBy_9 (by decide) (fun q1 => ?_) (fun q1 => ?_)
    · replace h := h.1 q1
      refine ra_iload_n E dX2_countHeldBy_46 rfl 2 rfl ?_
      exact ra_iret E hr dX2_countHeldBy_47 h
    · replace h := h.2 q1
      refine ra_aload_n E dX2_countHeldBy_12 rfl 0 rfl ?_
      refine gf_X2_7 E h0 fl_X2_42 dX2_countHeldBy_13 ?_
      refine ra_iload_n E dX2_countHeldBy_16 rfl 3 rfl ?_
      obtain ⟨g2, h⟩ := h
      refine ra_aald E (lm (h0.add (by decide))) (cel_ords tc ad h0) rfl g2 dX2_countHeldBy_17 ?_
      refine gf_X6_7 E (isOrder_of h0 g2) fl_X2_109 dX2_countHeldBy_18 ?_
      refine ra_iload_n E dX2_countHeldBy_21 rfl 1 rfl ?_
      refine ra_icmp_ne (tgt := 40) E dX2_countHeldBy_22 (by decide) (fun q3 => ?_) (fun q3 => ?_)
      · replace h := h.1 q3
        refine ra_iinc1 (L' := [(3, _), (0, _), (1, _), (2, _)]) E dX2_countHeldBy_40 3 rfl (by decide) rfl ?_
        refine ra_goto (tgt := 4) E dX2_countHeldBy_43 (by decide) ?_
        exact ra_sub (L' := [(0, _), (1, _), (2, _), (3, _)]) [1, 2, 3, 0] rfl (ih _ _ _ _ h)
      · replace h := h.2 q3
        refine ra_aload_n E dX2_countHeldBy_25 rfl 0 rfl ?_
        refine gf_X2_7 E h0 fl_X2_42 dX2_countHeldBy_26 ?_
        refine ra_iload_n E dX2_countHeldBy_29 rfl 3 rfl ?_
        obtain ⟨g4, h⟩ := h
        refine ra_aald E (lm (h0.add (by decide))) (cel_ords tc ad h0) rfl g4 dX2_countHeldBy_30 ?_
        refine ra_callIV (rest := []) E (c_X6_isHeld _ (isOrder_of h0 g4) _ _ h) (lq_X6 _) cv_X6_isHeld ml_X2_112 (by decide) (lm (isOrder_of h0 g4).lt) (fun R => ⟨_, cel_order tc ad (isOrder_of h0 g4) R⟩) rfl rfl rfl (Nat.le_of_ble_eq_true rfl) ⟨Nat.le_of_ble_eq_true rfl, Nat.le_of_ble_eq_true rfl⟩ ⟨Nat.zero_le _, Nat.zero_le _⟩ dX2_countHeldBy_31 (fun r6 M5 h => ?_)
        obtain ⟨b7, h⟩ := h
        refine ra_if_eq (tgt := 40) E dX2_countHeldBy_34 (by decide) (fun q8 => ?_) (fun q8 => ?_)
        · replace h := h.1 q8
          refine ra_iinc1 (L' := [(3, _), (0, _), (1, _), (2, _)]) E dX2_countHeldBy_40 3 rfl (by decide) rfl ?_
          refine ra_goto (tgt := 4) E dX2_countHeldBy_43 (by decide) ?_
          exact ra_sub (L' := [(0, _), (1, _), (2, _), (3, _)]) [1, 2, 3, 0] rfl (ih _ _ _ _ h)
        · replace h := h.2 q8
          refine ra_iinc1 (L' := [(2, _), (0, _), (1, _), (3, _)]) E dX2_countHeldBy_37 2 rfl (by decide) rfl ?_
          refine ra_iinc1 (L' := [(3, _), (2, _), (0, _), (1, _)]) E dX2_countHeldBy_40 3 rfl (by decide) rfl ?_
          refine ra_goto (tgt := 4) E dX2_countHeldBy_43 (by decide) ?_
          exact ra_sub (L' := [(0, _), (1, _), (2, _), (3, _)]) [2, 3, 1, 0] rfl (ih _ _ _ _ h)
def f_X2_countHeldBy (a0 : Nat) (p1 : Int32) (M : TM) (K : Int32 → TM → Prop) : Prop := ∃ n4, f_X2_countHeldBy_L4 a0 p1 K n4 p1 (0 : Int32) (0 : Int32) M
set_option maxRecDepth 100000 in
set_option maxHeartbeats 4000000 in
theorem c_X2_countHeldBy {ad : Nat → Nat} (a0 : Nat) (h0 : IsCanal a0) (p1 : Int32) (M : TM) (K : Int32 → TM → Prop) (h : f_X2_countHeldBy a0 p1 M K) : MI yX2_countHeldBy cX2_countHeldBy 4 (some .int) 1 ad [.ref (ad a0), .int p1] M K := by
  refine MI_of RX2 rfl (by decide +kernel) (Nat.le_of_ble_eq_true rfl) (fun p l e s m below meth c D tc E hr => ?_)
  unfold f_X2_countHeldBy at h
  refine ra_iconst E dX2_countHeldBy_0 ki_0 ?_
  refine ra_istore_n (L' := [(2, _), (0, _), (1, _)]) E dX2_countHeldBy_1 rfl (by decide) rfl ?_
  refine ra_iconst E dX2_countHeldBy_2 ki_0 ?_
  refine ra_istore_n (L' := [(3, _), (2, _), (0, _), (1, _)]) E dX2_countHeldBy_3 rfl (by decide) rfl ?_
  obtain ⟨n9, h⟩ := h
  exact ra_sub (L' := [(0, _), (1, _), (2, _), (3, _)]) [2, 3, 1, 0] rfl (l_X2_countHeldBy_L4 a0 h0 p1 E hr n9 _ _ _ _ h)
def f_X2_obstacleFor (a0 : Nat) (p1 : Int32) (p2 : Int32) (M : TM) (K : Int32 → TM → Prop) : Prop := f_X2_hasBarge a0 p1 M (fun r2 M1 => ((r2 = 0 → K (1 : Int32) M1) ∧ (¬ r2 = 0 → vp_in p1 5 ∧ f_X1_isInLock (a0 + 21 + 2 * p1.toNatClampNeg) M1 (fun r7 M6 => ((r7 = 0 → vp_in p1 5 ∧ ((¬ (M6 (a0 + 21 + 2 * p1.toNatClampNeg) 1) = p2 → vp_in p1 5 ∧ f_X2_fitsUnderBridges a0 (a0 + 21 + 2 * p1.toNatClampNeg) p2 M6 (fun r14 M13 => ((r14 = 0 → K (3 : Int32) M13) ∧ (¬ r14 = 0 → K (0 : Int32) M13)))) ∧ ((M6 (a0 + 21 + 2 * p1.toNatClampNeg) 1) = p2 → K (2 : Int32) M6))) ∧ (¬ r7 = 0 → K (1 : Int32) M6))))))
set_option maxRecDepth 100000 in
set_option maxHeartbeats 4000000 in
theorem c_X2_obstacleFor {ad : Nat → Nat} (a0 : Nat) (h0 : IsCanal a0) (p1 : Int32) (p2 : Int32) (M : TM) (K : Int32 → TM → Prop) (h : f_X2_obstacleFor a0 p1 p2 M K) : MI yX2_obstacleFor cX2_obstacleFor 3 (some .int) 2 ad [.ref (ad a0), .int p1, .int p2] M K := by
  refine MI_of RX2 rfl (by decide +kernel) (Nat.le_of_ble_eq_true rfl) (fun p l e s m below meth c D tc E hr => ?_)
  unfold f_X2_obstacleFor at h
  refine ra_aload_n E dX2_obstacleFor_0 rfl 0 rfl ?_
  refine ra_iload_n E dX2_obstacleFor_1 rfl 1 rfl ?_
  refine ra_callIV (rest := []) E (c_X2_hasBarge _ h0 _ _ _ h) (lq_X2 _) cv_X2_hasBarge ml_X2_162 (by decide) (lm (h0.add (j := 0) (by decide))) (fun R => ⟨_, cel_canal tc ad h0 R⟩) rfl rfl rfl (Nat.le_of_ble_eq_true rfl) ⟨Nat.le_of_ble_eq_true rfl, Nat.le_of_ble_eq_true rfl⟩ ⟨Nat.zero_le _, Nat.zero_le _⟩ dX2_obstacleFor_2 (fun r2 M1 h => ?_)
  obtain ⟨b3, h⟩ := h
  refine ra_if_eq (tgt := 20) E dX2_obstacleFor_5 (by decide) (fun q4 => ?_) (fun q4 => ?_)
  · replace h := h.1 q4
    refine ra_iconst E dX2_obstacleFor_20 ki_1 ?_
    exact ra_iret E hr dX2_obstacleFor_21 h
  · replace h := h.2 q4
    refine ra_aload_n E dX2_obstacleFor_8 rfl 0 rfl ?_
    refine gf_X2_5 E h0 fl_X2_33 dX2_obstacleFor_9 ?_
    refine ra_iload_n E dX2_obstacleFor_12 rfl 1 rfl ?_
    obtain ⟨g5, h⟩ := h
    refine ra_aald E (lm (h0.add (by decide))) (cel_bars tc ad h0) rfl g5 dX2_obstacleFor_13 ?_
    refine ra_callIV (rest := []) E (c_X1_isInLock _ (isBarge_of h0 g5) _ _ h) (lq_X1 _) cv_X1_isInLock ml_X2_101 (by decide) (lm (Nat.lt_of_succ_lt (isBarge_of h0 g5).lt)) (fun R => ⟨_, cel_barge tc ad (isBarge_of h0 g5) R⟩) rfl rfl rfl (Nat.le_of_ble_eq_true rfl) ⟨Nat.le_of_ble_eq_true rfl, Nat.le_of_ble_eq_true rfl⟩ ⟨Nat.zero_le _, Nat.zero_le _⟩ dX2_obstacleFor_14 (fun r7 M6 h => ?_)
    obtain ⟨b8, h⟩ := h
    refine ra_if_eq (tgt := 22) E dX2_obstacleFor_17 (by decide) (fun q9 => ?_) (fun q9 => ?_)
    · replace h := h.1 q9
      refine ra_aload_n E dX2_obstacleFor_22 rfl 0 rfl ?_
      refine gf_X2_5 E h0 fl_X2_33 dX2_obstacleFor_23 ?_
      refine ra_iload_n E dX2_obstacleFor_26 rfl 1 rfl ?_
      obtain ⟨g10, h⟩ := h
      refine ra_aald E (lm (h0.add (by decide))) (cel_bars tc ad h0) rfl g10 dX2_obstacleFor_27 ?_
      refine gf_X1_1 E (isBarge_of h0 g10) fl_X2_168 dX2_obstacleFor_28 ?_
      refine ra_iload_n E dX2_obstacleFor_31 rfl 2 rfl ?_
      refine ra_icmp_ne (tgt := 37) E dX2_obstacleFor_32 (by decide) (fun q11 => ?_) (fun q11 => ?_)
      · replace h := h.1 q11
        refine ra_aload_n E dX2_obstacleFor_37 rfl 0 rfl ?_
        refine ra_aload_n E dX2_obstacleFor_38 rfl 0 rfl ?_
        refine gf_X2_5 E h0 fl_X2_33 dX2_obstacleFor_39 ?_
        refine ra_iload_n E dX2_obstacleFor_42 rfl 1 rfl ?_
        obtain ⟨g12, h⟩ := h
        refine ra_aald E (lm (h0.add (by decide))) (cel_bars tc ad h0) rfl g12 dX2_obstacleFor_43 ?_
        refine ra_iload_n E dX2_obstacleFor_44 rfl 2 rfl ?_
        refine ra_callIV (rest := []) E (c_X2_fitsUnderBridges _ h0 _ (isBarge_of h0 g12) _ _ _ h) (lq_X2 _) cv_X2_fitsUnderBridges ml_X2_171 (by decide) (lm (h0.add (j := 0) (by decide))) (fun R => ⟨_, cel_canal tc ad h0 R⟩) rfl rfl rfl (Nat.le_of_ble_eq_true rfl) ⟨Nat.le_of_ble_eq_true rfl, Nat.le_of_ble_eq_true rfl⟩ ⟨Nat.zero_le _, Nat.zero_le _⟩ dX2_obstacleFor_45 (fun r14 M13 h => ?_)
        obtain ⟨b15, h⟩ := h
        refine ra_if_eq (tgt := 55) E dX2_obstacleFor_48 (by decide) (fun q16 => ?_) (fun q16 => ?_)
        · replace h := h.1 q16
          refine ra_iconst E dX2_obstacleFor_55 ki_3 ?_
          exact ra_iret E hr dX2_obstacleFor_56 h
        · replace h := h.2 q16
          refine ra_iconst E dX2_obstacleFor_51 ki_0 ?_
          refine ra_goto (tgt := 56) E dX2_obstacleFor_52 (by decide) ?_
          exact ra_iret E hr dX2_obstacleFor_56 h
      · replace h := h.2 q11
        refine ra_iconst E dX2_obstacleFor_35 ki_2 ?_
        exact ra_iret E hr dX2_obstacleFor_36 h
    · replace h := h.2 q9
      refine ra_iconst E dX2_obstacleFor_20 ki_1 ?_
      exact ra_iret E hr dX2_obstacleFor_21 h
def f_X2_canSail (a0 : Nat) (p1 : Int32) (p2 : Int32) (M : TM) (K : Int32 → TM → Prop) : Prop := f_X2_hasBarge a0 p1 M (fun r2 M1 => ((r2 = 0 → K (0 : Int32) M1) ∧ (¬ r2 = 0 → f_X2_hasPlace a0 p2 M1 (fun r6 M5 => ((r6 = 0 → K (0 : Int32) M5) ∧ (¬ r6 = 0 → f_X2_obstacleFor a0 p1 p2 M5 (fun r10 M9 => ((¬ r10 = 0 → K (0 : Int32) M9) ∧ (r10 = 0 → K (1 : Int32) M9)))))))))
set_option maxRecDepth 100000 in
set_option maxHeartbeats 4000000 in
theorem c_X2_canSail {ad : Nat → Nat} (a0 : Nat) (h0 : IsCanal a0) (p1 : Int32) (p2 : Int32) (M : TM) (K : Int32 → TM → Prop) (h : f_X2_canSail a0 p1 p2 M K) : MI yX2_canSail cX2_canSail 3 (some .boolean) 3 ad [.ref (ad a0), .int p1, .int p2] M (fun r M' => (r = 0 ∨ r = 1) ∧ K r M') := by
  refine MI_of RX2 rfl (by decide +kernel) (Nat.le_of_ble_eq_true rfl) (fun p l e s m below meth c D tc E hr => ?_)
  unfold f_X2_canSail at h
  refine ra_aload_n E dX2_canSail_0 rfl 0 rfl ?_
  refine ra_iload_n E dX2_canSail_1 rfl 1 rfl ?_
  refine ra_callIV (rest := []) E (c_X2_hasBarge _ h0 _ _ _ h) (lq_X2 _) cv_X2_hasBarge ml_X2_162 (by decide) (lm (h0.add (j := 0) (by decide))) (fun R => ⟨_, cel_canal tc ad h0 R⟩) rfl rfl rfl (Nat.le_of_ble_eq_true rfl) ⟨Nat.le_of_ble_eq_true rfl, Nat.le_of_ble_eq_true rfl⟩ ⟨Nat.zero_le _, Nat.zero_le _⟩ dX2_canSail_2 (fun r2 M1 h => ?_)
  obtain ⟨b3, h⟩ := h
  refine ra_if_eq (tgt := 29) E dX2_canSail_5 (by decide) (fun q4 => ?_) (fun q4 => ?_)
  · replace h := h.1 q4
    refine ra_iconst E dX2_canSail_29 ki_0 ?_
    exact ra_zret E hr rfl dX2_canSail_30 ⟨Or.inl rfl, h⟩
  · replace h := h.2 q4
    refine ra_aload_n E dX2_canSail_8 rfl 0 rfl ?_
    refine ra_iload_n E dX2_canSail_9 rfl 2 rfl ?_
    refine ra_callIV (rest := []) E (c_X2_hasPlace _ h0 _ _ _ h) (lq_X2 _) cv_X2_hasPlace ml_X2_90 (by decide) (lm (h0.add (j := 0) (by decide))) (fun R => ⟨_, cel_canal tc ad h0 R⟩) rfl rfl rfl (Nat.le_of_ble_eq_true rfl) ⟨Nat.le_of_ble_eq_true rfl, Nat.le_of_ble_eq_true rfl⟩ ⟨Nat.zero_le _, Nat.zero_le _⟩ dX2_canSail_10 (fun r6 M5 h => ?_)
    obtain ⟨b7, h⟩ := h
    refine ra_if_eq (tgt := 29) E dX2_canSail_13 (by decide) (fun q8 => ?_) (fun q8 => ?_)
    · replace h := h.1 q8
      refine ra_iconst E dX2_canSail_29 ki_0 ?_
      exact ra_zret E hr rfl dX2_canSail_30 ⟨Or.inl rfl, h⟩
    · replace h := h.2 q8
      refine ra_aload_n E dX2_canSail_16 rfl 0 rfl ?_
      refine ra_iload_n E dX2_canSail_17 rfl 1 rfl ?_
      refine ra_iload_n E dX2_canSail_18 rfl 2 rfl ?_
      refine ra_callIV (rest := []) E (c_X2_obstacleFor _ h0 _ _ _ _ h) (lq_X2 _) cv_X2_obstacleFor ml_X2_197 (by decide) (lm (h0.add (j := 0) (by decide))) (fun R => ⟨_, cel_canal tc ad h0 R⟩) rfl rfl rfl (Nat.le_of_ble_eq_true rfl) ⟨Nat.le_of_ble_eq_true rfl, Nat.le_of_ble_eq_true rfl⟩ ⟨Nat.zero_le _, Nat.zero_le _⟩ dX2_canSail_19 (fun r10 M9 h => ?_)
      refine ra_if_ne (tgt := 29) E dX2_canSail_22 (by decide) (fun q11 => ?_) (fun q11 => ?_)
      · replace h := h.1 q11
        refine ra_iconst E dX2_canSail_29 ki_0 ?_
        exact ra_zret E hr rfl dX2_canSail_30 ⟨Or.inl rfl, h⟩
      · replace h := h.2 q11
        refine ra_iconst E dX2_canSail_25 ki_1 ?_
        refine ra_goto (tgt := 30) E dX2_canSail_26 (by decide) ?_
        exact ra_zret E hr rfl dX2_canSail_30 ⟨Or.inr rfl, h⟩
def f_X2_canGive (a0 : Nat) (p1 : Int32) (p2 : Int32) (M : TM) (K : Int32 → TM → Prop) : Prop := f_X2_hasBarge a0 p1 M (fun r2 M1 => ((r2 = 0 → K (0 : Int32) M1) ∧ (¬ r2 = 0 → f_X2_hasOrder a0 p2 M1 (fun r6 M5 => ((r6 = 0 → K (0 : Int32) M5) ∧ (¬ r6 = 0 → vp_in p2 30 ∧ vp_in (M5 (a0 + 31 + p2.toNatClampNeg) 6) 5 ∧ ((¬ (M5 (a0 + 31 + p2.toNatClampNeg) 6) = (0 : Int32) → K (0 : Int32) M5) ∧ ((M5 (a0 + 31 + p2.toNatClampNeg) 6) = (0 : Int32) → f_X2_countHeldBy a0 p1 M5 (fun r13 M12 => (((4 : Int32) ≤ r13 → K (0 : Int32) M12) ∧ (¬ (4 : Int32) ≤ r13 → K (1 : Int32) M12)))))))))))
set_option maxRecDepth 100000 in
set_option maxHeartbeats 4000000 in
theorem c_X2_canGive {ad : Nat → Nat} (a0 : Nat) (h0 : IsCanal a0) (p1 : Int32) (p2 : Int32) (M : TM) (K : Int32 → TM → Prop) (h : f_X2_canGive a0 p1 p2 M K) : MI yX2_canGive cX2_canGive 3 (some .boolean) 2 ad [.ref (ad a0), .int p1, .int p2] M (fun r M' => (r = 0 ∨ r = 1) ∧ K r M') := by
  refine MI_of RX2 rfl (by decide +kernel) (Nat.le_of_ble_eq_true rfl) (fun p l e s m below meth c D tc E hr => ?_)
  unfold f_X2_canGive at h
  refine ra_aload_n E dX2_canGive_0 rfl 0 rfl ?_
  refine ra_iload_n E dX2_canGive_1 rfl 1 rfl ?_
  refine ra_callIV (rest := []) E (c_X2_hasBarge _ h0 _ _ _ h) (lq_X2 _) cv_X2_hasBarge ml_X2_162 (by decide) (lm (h0.add (j := 0) (by decide))) (fun R => ⟨_, cel_canal tc ad h0 R⟩) rfl rfl rfl (Nat.le_of_ble_eq_true rfl) ⟨Nat.le_of_ble_eq_true rfl, Nat.le_of_ble_eq_true rfl⟩ ⟨Nat.zero_le _, Nat.zero_le _⟩ dX2_canGive_2 (fun r2 M1 h => ?_)
  obtain ⟨b3, h⟩ := h
  refine ra_if_eq (tgt := 44) E dX2_canGive_5 (by decide) (fun q4 => ?_) (fun q4 => ?_)
  · replace h := h.1 q4
    refine ra_iconst E dX2_canGive_44 ki_0 ?_
    exact ra_zret E hr rfl dX2_canGive_45 ⟨Or.inl rfl, h⟩
  · replace h := h.2 q4
    refine ra_aload_n E dX2_canGive_8 rfl 0 rfl ?_
    refine ra_iload_n E dX2_canGive_9 rfl 2 rfl ?_
    refine ra_callIV (rest := []) E (c_X2_hasOrder _ h0 _ _ _ h) (lq_X2 _) cv_X2_hasOrder ml_X2_122 (by decide) (lm (h0.add (j := 0) (by decide))) (fun R => ⟨_, cel_canal tc ad h0 R⟩) rfl rfl rfl (Nat.le_of_ble_eq_true rfl) ⟨Nat.le_of_ble_eq_true rfl, Nat.le_of_ble_eq_true rfl⟩ ⟨Nat.zero_le _, Nat.zero_le _⟩ dX2_canGive_10 (fun r6 M5 h => ?_)
    obtain ⟨b7, h⟩ := h
    refine ra_if_eq (tgt := 44) E dX2_canGive_13 (by decide) (fun q8 => ?_) (fun q8 => ?_)
    · replace h := h.1 q8
      refine ra_iconst E dX2_canGive_44 ki_0 ?_
      exact ra_zret E hr rfl dX2_canGive_45 ⟨Or.inl rfl, h⟩
    · replace h := h.2 q8
      refine ra_aload_n E dX2_canGive_16 rfl 0 rfl ?_
      refine gf_X2_7 E h0 fl_X2_42 dX2_canGive_17 ?_
      refine ra_iload_n E dX2_canGive_20 rfl 2 rfl ?_
      obtain ⟨g9, h⟩ := h
      refine ra_aald E (lm (h0.add (by decide))) (cel_ords tc ad h0) rfl g9 dX2_canGive_21 ?_
      refine gf_X6_6 E (isOrder_of h0 g9) fl_X2_132 dX2_canGive_22 ?_
      refine gs_O (i := 0) E 0 (by decide) rfl (by decide) fl_X2_136 dX2_canGive_25 ?_
      obtain ⟨g11, h⟩ := h
      refine acmpO_ne (tgt := 44) E g11 (vpl _ _ (by decide)) dX2_canGive_28 (by decide) (fun q10 => ?_) (fun q10 => ?_)
      · replace h := h.1 q10
        refine ra_iconst E dX2_canGive_44 ki_0 ?_
        exact ra_zret E hr rfl dX2_canGive_45 ⟨Or.inl rfl, h⟩
      · replace h := h.2 q10
        refine ra_aload_n E dX2_canGive_31 rfl 0 rfl ?_
        refine ra_iload_n E dX2_canGive_32 rfl 1 rfl ?_
        refine ra_callIV (rest := []) E (c_X2_countHeldBy _ h0 _ _ _ h) (lq_X2 _) cv_X2_countHeldBy ml_X2_200 (by decide) (lm (h0.add (j := 0) (by decide))) (fun R => ⟨_, cel_canal tc ad h0 R⟩) rfl rfl rfl (Nat.le_of_ble_eq_true rfl) ⟨Nat.le_of_ble_eq_true rfl, Nat.le_of_ble_eq_true rfl⟩ ⟨Nat.zero_le _, Nat.zero_le _⟩ dX2_canGive_33 (fun r13 M12 h => ?_)
        refine ra_iconst E dX2_canGive_36 ki_4 ?_
        refine ra_icmp_ge (tgt := 44) E dX2_canGive_37 (by decide) (fun q14 => ?_) (fun q14 => ?_)
        · replace h := h.1 q14
          refine ra_iconst E dX2_canGive_44 ki_0 ?_
          exact ra_zret E hr rfl dX2_canGive_45 ⟨Or.inl rfl, h⟩
        · replace h := h.2 q14
          refine ra_iconst E dX2_canGive_40 ki_1 ?_
          refine ra_goto (tgt := 45) E dX2_canGive_41 (by decide) ?_
          exact ra_zret E hr rfl dX2_canGive_45 ⟨Or.inr rfl, h⟩
def f_X2_canReopen (a0 : Nat) (p1 : Int32) (M : TM) (K : Int32 → TM → Prop) : Prop := f_X2_hasOrder a0 p1 M (fun r2 M1 => ((r2 = 0 → K (0 : Int32) M1) ∧ (¬ r2 = 0 → vp_in p1 30 ∧ f_X6_isHeld (a0 + 31 + p1.toNatClampNeg) M1 (fun r7 M6 => ((r7 = 0 → K (0 : Int32) M6) ∧ (¬ r7 = 0 → K (1 : Int32) M6))))))
set_option maxRecDepth 100000 in
set_option maxHeartbeats 4000000 in
theorem c_X2_canReopen {ad : Nat → Nat} (a0 : Nat) (h0 : IsCanal a0) (p1 : Int32) (M : TM) (K : Int32 → TM → Prop) (h : f_X2_canReopen a0 p1 M K) : MI yX2_canReopen cX2_canReopen 2 (some .boolean) 1 ad [.ref (ad a0), .int p1] M (fun r M' => (r = 0 ∨ r = 1) ∧ K r M') := by
  refine MI_of RX2 rfl (by decide +kernel) (Nat.le_of_ble_eq_true rfl) (fun p l e s m below meth c D tc E hr => ?_)
  unfold f_X2_canReopen at h
  refine ra_aload_n E dX2_canReopen_0 rfl 0 rfl ?_
  refine ra_iload_n E dX2_canReopen_1 rfl 1 rfl ?_
  refine ra_callIV (rest := []) E (c_X2_hasOrder _ h0 _ _ _ h) (lq_X2 _) cv_X2_hasOrder ml_X2_122 (by decide) (lm (h0.add (j := 0) (by decide))) (fun R => ⟨_, cel_canal tc ad h0 R⟩) rfl rfl rfl (Nat.le_of_ble_eq_true rfl) ⟨Nat.le_of_ble_eq_true rfl, Nat.le_of_ble_eq_true rfl⟩ ⟨Nat.zero_le _, Nat.zero_le _⟩ dX2_canReopen_2 (fun r2 M1 h => ?_)
  obtain ⟨b3, h⟩ := h
  refine ra_if_eq (tgt := 24) E dX2_canReopen_5 (by decide) (fun q4 => ?_) (fun q4 => ?_)
  · replace h := h.1 q4
    refine ra_iconst E dX2_canReopen_24 ki_0 ?_
    exact ra_zret E hr rfl dX2_canReopen_25 ⟨Or.inl rfl, h⟩
  · replace h := h.2 q4
    refine ra_aload_n E dX2_canReopen_8 rfl 0 rfl ?_
    refine gf_X2_7 E h0 fl_X2_42 dX2_canReopen_9 ?_
    refine ra_iload_n E dX2_canReopen_12 rfl 1 rfl ?_
    obtain ⟨g5, h⟩ := h
    refine ra_aald E (lm (h0.add (by decide))) (cel_ords tc ad h0) rfl g5 dX2_canReopen_13 ?_
    refine ra_callIV (rest := []) E (c_X6_isHeld _ (isOrder_of h0 g5) _ _ h) (lq_X6 _) cv_X6_isHeld ml_X2_112 (by decide) (lm (isOrder_of h0 g5).lt) (fun R => ⟨_, cel_order tc ad (isOrder_of h0 g5) R⟩) rfl rfl rfl (Nat.le_of_ble_eq_true rfl) ⟨Nat.le_of_ble_eq_true rfl, Nat.le_of_ble_eq_true rfl⟩ ⟨Nat.zero_le _, Nat.zero_le _⟩ dX2_canReopen_14 (fun r7 M6 h => ?_)
    obtain ⟨b8, h⟩ := h
    refine ra_if_eq (tgt := 24) E dX2_canReopen_17 (by decide) (fun q9 => ?_) (fun q9 => ?_)
    · replace h := h.1 q9
      refine ra_iconst E dX2_canReopen_24 ki_0 ?_
      exact ra_zret E hr rfl dX2_canReopen_25 ⟨Or.inl rfl, h⟩
    · replace h := h.2 q9
      refine ra_iconst E dX2_canReopen_20 ki_1 ?_
      refine ra_goto (tgt := 25) E dX2_canReopen_21 (by decide) ?_
      exact ra_zret E hr rfl dX2_canReopen_25 ⟨Or.inr rfl, h⟩
def f_X2_reopen (a0 : Nat) (p1 : Int32) (M : TM) (K : TM → Prop) : Prop := f_X2_hasOrder a0 p1 M (fun r2 M1 => ((r2 = 0 → K M1) ∧ (¬ r2 = 0 → f_X2_removeFromQueue a0 p1 M1 (fun M5 => vp_in p1 30 ∧ f_X6_open (a0 + 31 + p1.toNatClampNeg) M5 (fun M7 => K M7)))))
set_option maxRecDepth 100000 in
set_option maxHeartbeats 4000000 in
theorem c_X2_reopen {ad : Nat → Nat} (a0 : Nat) (h0 : IsCanal a0) (p1 : Int32) (M : TM) (K : TM → Prop) (h : f_X2_reopen a0 p1 M K) : MV yX2_reopen cX2_reopen 2 2 ad [.ref (ad a0), .int p1] M K := by
  refine MV_of RX2 rfl (by decide +kernel) (Nat.le_of_ble_eq_true rfl) (fun p l e s m below meth c D tc E hr => ?_)
  unfold f_X2_reopen at h
  refine ra_aload_n E dX2_reopen_0 rfl 0 rfl ?_
  refine ra_iload_n E dX2_reopen_1 rfl 1 rfl ?_
  refine ra_callIV (rest := []) E (c_X2_hasOrder _ h0 _ _ _ h) (lq_X2 _) cv_X2_hasOrder ml_X2_122 (by decide) (lm (h0.add (j := 0) (by decide))) (fun R => ⟨_, cel_canal tc ad h0 R⟩) rfl rfl rfl (Nat.le_of_ble_eq_true rfl) ⟨Nat.le_of_ble_eq_true rfl, Nat.le_of_ble_eq_true rfl⟩ ⟨Nat.zero_le _, Nat.zero_le _⟩ dX2_reopen_2 (fun r2 M1 h => ?_)
  obtain ⟨b3, h⟩ := h
  refine ra_if_eq (tgt := 22) E dX2_reopen_5 (by decide) (fun q4 => ?_) (fun q4 => ?_)
  · replace h := h.1 q4
    exact ra_vret E hr dX2_reopen_22 h
  · replace h := h.2 q4
    refine ra_aload_n E dX2_reopen_8 rfl 0 rfl ?_
    refine ra_iload_n E dX2_reopen_9 rfl 1 rfl ?_
    refine ra_callVV (rest := []) E (c_X2_removeFromQueue _ h0 _ _ _ h) (lq_X2 _) cv_X2_removeFromQueue ml_X2_210 (by decide) (lm (h0.add (j := 0) (by decide))) (fun R => ⟨_, cel_canal tc ad h0 R⟩) rfl rfl rfl (Nat.le_of_ble_eq_true rfl) ⟨Nat.le_of_ble_eq_true rfl, Nat.le_of_ble_eq_true rfl⟩ ⟨Nat.zero_le _, Nat.zero_le _⟩ dX2_reopen_10 (fun M5 h => ?_)
    refine ra_aload_n E dX2_reopen_13 rfl 0 rfl ?_
    refine gf_X2_7 E h0 fl_X2_42 dX2_reopen_14 ?_
    refine ra_iload_n E dX2_reopen_17 rfl 1 rfl ?_
    obtain ⟨g6, h⟩ := h
    refine ra_aald E (lm (h0.add (by decide))) (cel_ords tc ad h0) rfl g6 dX2_reopen_18 ?_
    refine ra_callVV (rest := []) E (c_X6_open _ (isOrder_of h0 g6) _ _ h) (lq_X6 _) cv_X6_open ml_X2_213 (by decide) (lm (isOrder_of h0 g6).lt) (fun R => ⟨_, cel_order tc ad (isOrder_of h0 g6) R⟩) rfl rfl rfl (Nat.le_of_ble_eq_true rfl) ⟨Nat.le_of_ble_eq_true rfl, Nat.le_of_ble_eq_true rfl⟩ ⟨Nat.zero_le _, Nat.zero_le _⟩ dX2_reopen_19 (fun M7 h => ?_)
    exact ra_vret E hr dX2_reopen_22 h
def f_X2_moveBarges_L2 (a0 : Nat) (K : TM → Prop) : Nat → Int32 → TM → Prop
  | 0, _, _ => False
  | n + 1, x1, M => (((M a0 4) ≤ x1 → K M) ∧ (¬ (M a0 4) ≤ x1 → vp_in x1 5 ∧ f_X1_isUnderWay (a0 + 21 + 2 * x1.toNatClampNeg) M (fun r4 M3 => ((r4 = 0 → f_X2_moveBarges_L2 a0 K n (x1 + 1) M3) ∧ (¬ r4 = 0 → vp_in x1 5 ∧ f_X2_move a0 x1 (a0 + 21 + 2 * x1.toNatClampNeg) M3 (fun M8 => f_X2_moveBarges_L2 a0 K n (x1 + 1) M8))))))
set_option maxRecDepth 100000 in
set_option maxHeartbeats 4000000 in
theorem l_X2_moveBarges_L2 {p : Program} {l : Launch} {e : Env} {s : State} {m : MethodId} {args : Array Value} {below : List Frame} {meth : Method} {c : Code} {D : va_G} {tc : Nat → ClassId} {ad : Nat → Nat} (a0 : Nat) (h0 : IsCanal a0) {K : TM → Prop} (E : Ev p s m args meth c D tc ad RX2 cX2_moveBarges 2) (hr : meth.sig.returnType = none) : ∀ (n : Nat) (x1 : Int32) (M : TM) , f_X2_moveBarges_L2 a0 K n x1 M → Wa p l e (rmD 2) s m args below meth c 0 0 (MQ below (va_Qv K (EndW D tc ad) (A0 ad s.heap.size)) args s 0 0 (A0 ad s.heap.size)) D tc ad 2 M 2 [(0, .ref (ad a0)), (1, .int x1)] [] := by
  intro n
  induction n with
  | zero => intro x1 M  h; exact h.elim
  | succ n ih =>
    intro x1 M  h
    unfold f_X2_moveBarges_L2 at h
    refine ra_iload_n E dX2_moveBarges_2 rfl 1 rfl ?_
    refine ra_aload_n E dX2_moveBarges_3 rfl 0 rfl ?_
    refine gf_X2_4 E h0 fl_X2_28 dX2_moveBarges_4 ?_
    refine ra_icmp_ge (tgt := 39) E dX2_moveBarges_7 (by decide) (fun q1 => ?_) (fun q1 => ?_)
    · replace h := h.1 q1
      exact ra_vret E hr dX2_moveBarges_39 h
    · replace h := h.2 q1
      refine ra_aload_n E dX2_moveBarges_10 rfl 0 rfl ?_
      refine gf_X2_5 E h0 fl_X2_33 dX2_moveBarges_11 ?_
      refine ra_iload_n E dX2_moveBarges_14 rfl 1 rfl ?_
      obtain ⟨g2, h⟩ := h
      refine ra_aald E (lm (h0.add (by decide))) (cel_bars tc ad h0) rfl g2 dX2_moveBarges_15 ?_
      refine ra_callIV (rest := []) E (c_X1_isUnderWay _ (isBarge_of h0 g2) _ _ h) (lq_X1 _) cv_X1_isUnderWay ml_X2_165 (by decide) (lm (Nat.lt_of_succ_lt (isBarge_of h0 g2).lt)) (fun R => ⟨_, cel_barge tc ad (isBarge_of h0 g2) R⟩) rfl rfl rfl (Nat.le_of_ble_eq_true rfl) ⟨Nat.le_of_ble_eq_true rfl, Nat.le_of_ble_eq_true rfl⟩ ⟨Nat.zero_le _, Nat.zero_le _⟩ dX2_moveBarges_16 (fun r4 M3 h => ?_)
      obtain ⟨b5, h⟩ := h
      refine ra_if_eq (tgt := 33) E dX2_moveBarges_19 (by decide) (fun q6 => ?_) (fun q6 => ?_)
      · replace h := h.1 q6
        refine ra_iinc1 (L' := [(1, _), (0, _)]) E dX2_moveBarges_33 1 rfl (by decide) rfl ?_
        refine ra_goto (tgt := 2) E dX2_moveBarges_36 (by decide) ?_
        exact ra_sub (L' := [(0, _), (1, _)]) [1, 0] rfl (ih _ _ h)
      · replace h := h.2 q6
        refine ra_aload_n E dX2_moveBarges_22 rfl 0 rfl ?_
        refine ra_iload_n E dX2_moveBarges_23 rfl 1 rfl ?_
        refine ra_aload_n E dX2_moveBarges_24 rfl 0 rfl ?_
        refine gf_X2_5 E h0 fl_X2_33 dX2_moveBarges_25 ?_
        refine ra_iload_n E dX2_moveBarges_28 rfl 1 rfl ?_
        obtain ⟨g7, h⟩ := h
        refine ra_aald E (lm (h0.add (by decide))) (cel_bars tc ad h0) rfl g7 dX2_moveBarges_29 ?_
        refine ra_callVV (rest := []) E (c_X2_move _ h0 _ _ (isBarge_of h0 g7) _ _ h) (lq_X2 _) cv_X2_move ml_X2_240 (by decide) (lm (h0.add (j := 0) (by decide))) (fun R => ⟨_, cel_canal tc ad h0 R⟩) rfl rfl rfl (Nat.le_of_ble_eq_true rfl) ⟨Nat.le_of_ble_eq_true rfl, Nat.le_of_ble_eq_true rfl⟩ ⟨Nat.zero_le _, Nat.zero_le _⟩ dX2_moveBarges_30 (fun M8 h => ?_)
        refine ra_iinc1 (L' := [(1, _), (0, _)]) E dX2_moveBarges_33 1 rfl (by decide) rfl ?_
        refine ra_goto (tgt := 2) E dX2_moveBarges_36 (by decide) ?_
        exact ra_sub (L' := [(0, _), (1, _)]) [1, 0] rfl (ih _ _ h)
def f_X2_moveBarges (a0 : Nat) (M : TM) (K : TM → Prop) : Prop := ∃ n2, f_X2_moveBarges_L2 a0 K n2 (0 : Int32) M
set_option maxRecDepth 100000 in
set_option maxHeartbeats 4000000 in
theorem c_X2_moveBarges {ad : Nat → Nat} (a0 : Nat) (h0 : IsCanal a0) (M : TM) (K : TM → Prop) (h : f_X2_moveBarges a0 M K) : MV yX2_moveBarges cX2_moveBarges 2 2 ad [.ref (ad a0)] M K := by
  refine MV_of RX2 rfl (by decide +kernel) (Nat.le_of_ble_eq_true rfl) (fun p l e s m below meth c D tc E hr => ?_)
  unfold f_X2_moveBarges at h
  refine ra_iconst E dX2_moveBarges_0 ki_0 ?_
  refine ra_istore_n (L' := [(1, _), (0, _)]) E dX2_moveBarges_1 rfl (by decide) rfl ?_
  obtain ⟨n9, h⟩ := h
  exact ra_sub (L' := [(0, _), (1, _)]) [1, 0] rfl (l_X2_moveBarges_L2 a0 h0 E hr n9 _ _ h)
def f_X2_pullNoodles_L2 (a0 : Nat) (K : TM → Prop) : Nat → Int32 → TM → Prop
  | 0, _, _ => False
  | n + 1, x1, M => (((M a0 4) ≤ x1 → K M) ∧ (¬ (M a0 4) ≤ x1 → vp_in x1 5 ∧ f_X1_queuedAt (a0 + 21 + 2 * x1.toNatClampNeg) (0 : Int32) M (fun r4 M3 => f_X2_hasOrder a0 r4 M3 (fun r6 M5 => ((r6 = 0 → f_X2_pullNoodles_L2 a0 K n (x1 + 1) M5) ∧ (¬ r6 = 0 → vp_in x1 5 ∧ vp_in r4 30 ∧ f_X2_pull a0 (a0 + 21 + 2 * x1.toNatClampNeg) (a0 + 31 + r4.toNatClampNeg) r4 M5 (fun M11 => f_X2_pullNoodles_L2 a0 K n (x1 + 1) M11)))))))
set_option maxRecDepth 100000 in
set_option maxHeartbeats 4000000 in
theorem l_X2_pullNoodles_L2 {p : Program} {l : Launch} {e : Env} {s : State} {m : MethodId} {args : Array Value} {below : List Frame} {meth : Method} {c : Code} {D : va_G} {tc : Nat → ClassId} {ad : Nat → Nat} (a0 : Nat) (h0 : IsCanal a0) {K : TM → Prop} (E : Ev p s m args meth c D tc ad RX2 cX2_pullNoodles 3) (hr : meth.sig.returnType = none) : ∀ (n : Nat) (x1 : Int32) (M : TM) , f_X2_pullNoodles_L2 a0 K n x1 M → Wa p l e (rmD 2) s m args below meth c 0 0 (MQ below (va_Qv K (EndW D tc ad) (A0 ad s.heap.size)) args s 0 0 (A0 ad s.heap.size)) D tc ad 3 M 2 [(0, .ref (ad a0)), (1, .int x1)] [] := by
  intro n
  induction n with
  | zero => intro x1 M  h; exact h.elim
  | succ n ih =>
    intro x1 M  h
    unfold f_X2_pullNoodles_L2 at h
    refine ra_iload_n E dX2_pullNoodles_2 rfl 1 rfl ?_
    refine ra_aload_n E dX2_pullNoodles_3 rfl 0 rfl ?_
    refine gf_X2_4 E h0 fl_X2_28 dX2_pullNoodles_4 ?_
    refine ra_icmp_ge (tgt := 52) E dX2_pullNoodles_7 (by decide) (fun q1 => ?_) (fun q1 => ?_)
    · replace h := h.1 q1
      exact ra_vret E hr dX2_pullNoodles_52 h
    · replace h := h.2 q1
      refine ra_aload_n E dX2_pullNoodles_10 rfl 0 rfl ?_
      refine gf_X2_5 E h0 fl_X2_33 dX2_pullNoodles_11 ?_
      refine ra_iload_n E dX2_pullNoodles_14 rfl 1 rfl ?_
      obtain ⟨g2, h⟩ := h
      refine ra_aald E (lm (h0.add (by decide))) (cel_bars tc ad h0) rfl g2 dX2_pullNoodles_15 ?_
      refine ra_iconst E dX2_pullNoodles_16 ki_0 ?_
      refine ra_callIV (rest := []) E (c_X1_queuedAt _ (isBarge_of h0 g2) _ _ _ h) (lq_X1 _) cv_X1_queuedAt ml_X2_118 (by decide) (lm (Nat.lt_of_succ_lt (isBarge_of h0 g2).lt)) (fun R => ⟨_, cel_barge tc ad (isBarge_of h0 g2) R⟩) rfl rfl rfl (Nat.le_of_ble_eq_true rfl) ⟨Nat.le_of_ble_eq_true rfl, Nat.le_of_ble_eq_true rfl⟩ ⟨Nat.zero_le _, Nat.zero_le _⟩ dX2_pullNoodles_17 (fun r4 M3 h => ?_)
      refine ra_istore_n (L' := [(2, _), (0, _), (1, _)]) E dX2_pullNoodles_20 rfl (by decide) rfl ?_
      refine ra_aload_n E dX2_pullNoodles_21 rfl 1 rfl ?_
      refine ra_iload_n E dX2_pullNoodles_22 rfl 0 rfl ?_
      refine ra_callIV (rest := []) E (c_X2_hasOrder _ h0 _ _ _ h) (lq_X2 _) cv_X2_hasOrder ml_X2_122 (by decide) (lm (h0.add (j := 0) (by decide))) (fun R => ⟨_, cel_canal tc ad h0 R⟩) rfl rfl rfl (Nat.le_of_ble_eq_true rfl) ⟨Nat.le_of_ble_eq_true rfl, Nat.le_of_ble_eq_true rfl⟩ ⟨Nat.zero_le _, Nat.zero_le _⟩ dX2_pullNoodles_23 (fun r6 M5 h => ?_)
      obtain ⟨b7, h⟩ := h
      refine ra_if_eq (tgt := 46) E dX2_pullNoodles_26 (by decide) (fun q8 => ?_) (fun q8 => ?_)
      · replace h := h.1 q8
        refine ra_iinc1 (L' := [(1, _), (2, _), (0, _)]) E dX2_pullNoodles_46 2 rfl (by decide) rfl ?_
        refine ra_goto (tgt := 2) E dX2_pullNoodles_49 (by decide) ?_
        exact ra_sub (L' := [(0, _), (1, _)]) [2, 0] rfl (ih _ _ h)
      · replace h := h.2 q8
        refine ra_aload_n E dX2_pullNoodles_29 rfl 1 rfl ?_
        refine ra_aload_n E dX2_pullNoodles_30 rfl 1 rfl ?_
        refine gf_X2_5 E h0 fl_X2_33 dX2_pullNoodles_31 ?_
        refine ra_iload_n E dX2_pullNoodles_34 rfl 2 rfl ?_
        obtain ⟨g9, h⟩ := h
        refine ra_aald E (lm (h0.add (by decide))) (cel_bars tc ad h0) rfl g9 dX2_pullNoodles_35 ?_
        refine ra_aload_n E dX2_pullNoodles_36 rfl 1 rfl ?_
        refine gf_X2_7 E h0 fl_X2_42 dX2_pullNoodles_37 ?_
        refine ra_iload_n E dX2_pullNoodles_40 rfl 0 rfl ?_
        obtain ⟨g10, h⟩ := h
        refine ra_aald E (lm (h0.add (by decide))) (cel_ords tc ad h0) rfl g10 dX2_pullNoodles_41 ?_
        refine ra_iload_n E dX2_pullNoodles_42 rfl 0 rfl ?_
        refine ra_callVV (rest := []) E (c_X2_pull _ h0 _ (isBarge_of h0 g9) _ (isOrder_of h0 g10) _ _ _ h) (lq_X2 _) cv_X2_pull ml_X2_250 (by decide) (lm (h0.add (j := 0) (by decide))) (fun R => ⟨_, cel_canal tc ad h0 R⟩) rfl rfl rfl (Nat.le_of_ble_eq_true rfl) ⟨Nat.le_of_ble_eq_true rfl, Nat.le_of_ble_eq_true rfl⟩ ⟨Nat.zero_le _, Nat.zero_le _⟩ dX2_pullNoodles_43 (fun M11 h => ?_)
        refine ra_iinc1 (L' := [(1, _), (2, _), (0, _)]) E dX2_pullNoodles_46 2 rfl (by decide) rfl ?_
        refine ra_goto (tgt := 2) E dX2_pullNoodles_49 (by decide) ?_
        exact ra_sub (L' := [(0, _), (1, _)]) [2, 0] rfl (ih _ _ h)
def f_X2_pullNoodles (a0 : Nat) (M : TM) (K : TM → Prop) : Prop := ∃ n2, f_X2_pullNoodles_L2 a0 K n2 (0 : Int32) M
set_option maxRecDepth 100000 in
set_option maxHeartbeats 4000000 in
theorem c_X2_pullNoodles {ad : Nat → Nat} (a0 : Nat) (h0 : IsCanal a0) (M : TM) (K : TM → Prop) (h : f_X2_pullNoodles a0 M K) : MV yX2_pullNoodles cX2_pullNoodles 3 2 ad [.ref (ad a0)] M K := by
  refine MV_of RX2 rfl (by decide +kernel) (Nat.le_of_ble_eq_true rfl) (fun p l e s m below meth c D tc E hr => ?_)
  unfold f_X2_pullNoodles at h
  refine ra_iconst E dX2_pullNoodles_0 ki_0 ?_
  refine ra_istore_n (L' := [(1, _), (0, _)]) E dX2_pullNoodles_1 rfl (by decide) rfl ?_
  obtain ⟨n12, h⟩ := h
  exact ra_sub (L' := [(0, _), (1, _)]) [1, 0] rfl (l_X2_pullNoodles_L2 a0 h0 E hr n12 _ _ h)
def f_X2_serve (a0 : Nat) (a1 : Nat) (a2 : Nat) (M : TM) (K : TM → Prop) : Prop := f_X1_isInLock a1 M (fun r2 M1 => ((¬ r2 = 0 → K M1) ∧ (r2 = 0 → ((¬ (M1 a1 0) = (M a2 0) → K M1) ∧ ((M1 a1 0) = (M a2 0) → (((M1 a1 5) < (M1 a2 1) → K M1) ∧ (¬ (M1 a1 5) < (M1 a2 1) → f_X2_hasPlace a0 (M a2 0) M1 (fun r8 M7 => ((¬ r8 = 0 → ∀ M11, M11 = u2 M7 a1 5 ((M7 a1 5) - (M7 a2 1)) → vp_in (M a2 0) 16 ∧ vp_in (M a2 0) 16 ∧ ∀ M14, M14 = u2 M11 (a0 + 2) (M a2 0).toNatClampNeg ((M11 (a0 + 2) (M a2 0).toNatClampNeg) + (M11 a2 1)) → vp_in (M a2 0) 16 ∧ vp_in (M a2 0) 16 ∧ ∀ M17, M17 = u2 M14 (a0 + 3) (M a2 0).toNatClampNeg ((M14 (a0 + 3) (M a2 0).toNatClampNeg) + (M14 a2 1)) → ∀ M18, M18 = u2 M17 a0 11 ((M17 a0 11) + (M17 a2 1)) → ∀ M19, M19 = u2 M18 a0 12 ((M18 a0 12) + (1 : Int32)) → f_X6_worth a2 M19 (fun r21 M20 => ∀ M22, M22 = u2 M20 a0 9 ((M19 a0 9) + r21) → f_X6_finish a2 (3 : Int32) M22 (fun M23 => K M23))) ∧ (r8 = 0 → K M7))))))))))
set_option maxRecDepth 100000 in
set_option maxHeartbeats 4000000 in
theorem c_X2_serve {ad : Nat → Nat} (a0 : Nat) (h0 : IsCanal a0) (a1 : Nat) (h1 : IsBarge a1) (a2 : Nat) (h2 : IsOrder a2) (M : TM) (K : TM → Prop) (h : f_X2_serve a0 a1 a2 M K) : MV yX2_serve cX2_serve 4 1 ad [.ref (ad a0), .ref (ad a1), .ref (ad a2)] M K := by
  refine MV_of RX2 rfl (by decide +kernel) (Nat.le_of_ble_eq_true rfl) (fun p l e s m below meth c D tc E hr => ?_)
  unfold f_X2_serve at h
  refine ra_aload_n E dX2_serve_0 rfl 2 rfl ?_
  refine gf_X6_0 E h2 fl_X2_105 dX2_serve_1 ?_
  refine ra_istore_n (L' := [(3, _), (0, _), (1, _), (2, _)]) E dX2_serve_4 rfl (by decide) rfl ?_
  refine ra_aload_n E dX2_serve_5 rfl 2 rfl ?_
  refine ra_callIV (rest := []) E (c_X1_isInLock _ h1 _ _ h) (lq_X1 _) cv_X1_isInLock ml_X2_101 (by decide) (lm (Nat.lt_of_succ_lt h1.lt)) (fun R => ⟨_, cel_barge tc ad h1 R⟩) rfl rfl rfl (Nat.le_of_ble_eq_true rfl) ⟨Nat.le_of_ble_eq_true rfl, Nat.le_of_ble_eq_true rfl⟩ ⟨Nat.zero_le _, Nat.zero_le _⟩ dX2_serve_6 (fun r2 M1 h => ?_)
  obtain ⟨b3, h⟩ := h
  refine ra_if_ne (tgt := 39) E dX2_serve_9 (by decide) (fun q4 => ?_) (fun q4 => ?_)
  · replace h := h.1 q4
    exact ra_vret E hr dX2_serve_39 h
  · replace h := h.2 q4
    refine ra_aload_n E dX2_serve_12 rfl 2 rfl ?_
    refine gf_X1_0 E h1 fl_X2_98 dX2_serve_13 ?_
    refine ra_iload_n E dX2_serve_16 rfl 0 rfl ?_
    refine ra_icmp_ne (tgt := 39) E dX2_serve_17 (by decide) (fun q5 => ?_) (fun q5 => ?_)
    · replace h := h.1 q5
      exact ra_vret E hr dX2_serve_39 h
    · replace h := h.2 q5
      refine ra_aload_n E dX2_serve_20 rfl 2 rfl ?_
      refine gf_X1_5 E h1 fl_X2_144 dX2_serve_21 ?_
      refine ra_aload_n E dX2_serve_24 rfl 3 rfl ?_
      refine gf_X6_1 E h2 fl_X2_129 dX2_serve_25 ?_
      refine ra_icmp_lt (tgt := 39) E dX2_serve_28 (by decide) (fun q6 => ?_) (fun q6 => ?_)
      · replace h := h.1 q6
        exact ra_vret E hr dX2_serve_39 h
      · replace h := h.2 q6
        refine ra_aload_n E dX2_serve_31 rfl 1 rfl ?_
        refine ra_iload_n E dX2_serve_32 rfl 0 rfl ?_
        refine ra_callIV (rest := []) E (c_X2_hasPlace _ h0 _ _ _ h) (lq_X2 _) cv_X2_hasPlace ml_X2_90 (by decide) (lm (h0.add (j := 0) (by decide))) (fun R => ⟨_, cel_canal tc ad h0 R⟩) rfl rfl rfl (Nat.le_of_ble_eq_true rfl) ⟨Nat.le_of_ble_eq_true rfl, Nat.le_of_ble_eq_true rfl⟩ ⟨Nat.zero_le _, Nat.zero_le _⟩ dX2_serve_33 (fun r8 M7 h => ?_)
        obtain ⟨b9, h⟩ := h
        refine ra_if_ne (tgt := 40) E dX2_serve_36 (by decide) (fun q10 => ?_) (fun q10 => ?_)
        · replace h := h.1 q10
          refine ra_aload_n E dX2_serve_40 rfl 2 rfl ?_
          refine ra_dup E dX2_serve_41 rfl ?_
          refine gf_X1_5 E h1 fl_X2_144 dX2_serve_42 ?_
          refine ra_aload_n E dX2_serve_45 rfl 3 rfl ?_
          refine gf_X6_1 E h2 fl_X2_129 dX2_serve_46 ?_
          refine ra_isub E dX2_serve_49 ?_
          refine pf_X1_5 E h1 fl_X2_144 dX2_serve_50 ?_
          replace h := h _ rfl
          refine ra_aload_n E dX2_serve_53 rfl 1 rfl ?_
          refine gf_X2_2 E h0 fl_X2_21 dX2_serve_54 ?_
          refine ra_iload_n E dX2_serve_57 rfl 0 rfl ?_
          refine ra_dup2 E dX2_serve_58 rfl rfl ?_
          obtain ⟨g12, h⟩ := h
          refine ra_iald E (lm (h0.add (by decide))) (cel_used tc ad h0) g12 dX2_serve_59 ?_
          refine ra_aload_n E dX2_serve_60 rfl 3 rfl ?_
          refine gf_X6_1 E h2 fl_X2_129 dX2_serve_61 ?_
          refine ra_iadd E dX2_serve_64 ?_
          obtain ⟨g13, h⟩ := h
          refine ra_iast E (lm (h0.add (by decide))) (cel_used tc ad h0) g13 dX2_serve_65 ?_
          replace h := h _ rfl
          refine ra_aload_n E dX2_serve_66 rfl 1 rfl ?_
          refine gf_X2_3 E h0 fl_X2_25 dX2_serve_67 ?_
          refine ra_iload_n E dX2_serve_70 rfl 0 rfl ?_
          refine ra_dup2 E dX2_serve_71 rfl rfl ?_
          obtain ⟨g15, h⟩ := h
          refine ra_iald E (lm (h0.add (by decide))) (cel_eat tc ad h0) g15 dX2_serve_72 ?_
          refine ra_aload_n E dX2_serve_73 rfl 3 rfl ?_
          refine gf_X6_1 E h2 fl_X2_129 dX2_serve_74 ?_
          refine ra_iadd E dX2_serve_77 ?_
          obtain ⟨g16, h⟩ := h
          refine ra_iast E (lm (h0.add (by decide))) (cel_eat tc ad h0) g16 dX2_serve_78 ?_
          replace h := h _ rfl
          refine ra_aload_n E dX2_serve_79 rfl 1 rfl ?_
          refine ra_dup E dX2_serve_80 rfl ?_
          refine gf_X2_11 E h0 fl_X2_55 dX2_serve_81 ?_
          refine ra_aload_n E dX2_serve_84 rfl 3 rfl ?_
          refine gf_X6_1 E h2 fl_X2_129 dX2_serve_85 ?_
          refine ra_iadd E dX2_serve_88 ?_
          refine pf_X2_11 E h0 fl_X2_55 dX2_serve_89 ?_
          replace h := h _ rfl
          refine ra_aload_n E dX2_serve_92 rfl 1 rfl ?_
          refine ra_dup E dX2_serve_93 rfl ?_
          refine gf_X2_12 E h0 fl_X2_58 dX2_serve_94 ?_
          refine ra_iconst E dX2_serve_97 ki_1 ?_
          refine ra_iadd E dX2_serve_98 ?_
          refine pf_X2_12 E h0 fl_X2_58 dX2_serve_99 ?_
          replace h := h _ rfl
          refine ra_aload_n E dX2_serve_102 rfl 1 rfl ?_
          refine ra_dup E dX2_serve_103 rfl ?_
          refine gf_X2_9 E h0 fl_X2_49 dX2_serve_104 ?_
          refine ra_aload_n E dX2_serve_107 rfl 3 rfl ?_
          refine ra_callIV (rest := [_, _]) E (c_X6_worth _ h2 _ _ h) (lq_X6 _) cv_X6_worth ml_X2_264 (by decide) (lm h2.lt) (fun R => ⟨_, cel_order tc ad h2 R⟩) rfl rfl rfl (Nat.le_of_ble_eq_true rfl) ⟨Nat.le_of_ble_eq_true rfl, Nat.le_of_ble_eq_true rfl⟩ ⟨Nat.zero_le _, Nat.zero_le _⟩ dX2_serve_108 (fun r21 M20 h => ?_)
          refine ra_iadd E dX2_serve_111 ?_
          refine pf_X2_9 E h0 fl_X2_49 dX2_serve_112 ?_
          replace h := h _ rfl
          refine ra_aload_n E dX2_serve_115 rfl 3 rfl ?_
          refine gs_O (i := 3) E 3 (by decide) rfl (by decide) fl_X2_159 dX2_serve_116 ?_
          refine ra_callVV (rest := []) E (c_X6_finish _ h2 _ _ _ h) (lq_X6 _) cv_X6_finish ml_X2_267 (by decide) (lm h2.lt) (fun R => ⟨_, cel_order tc ad h2 R⟩) rfl rfl rfl (Nat.le_of_ble_eq_true rfl) ⟨Nat.le_of_ble_eq_true rfl, Nat.le_of_ble_eq_true rfl⟩ ⟨Nat.zero_le _, Nat.zero_le _⟩ dX2_serve_119 (fun M23 h => ?_)
          exact ra_vret E hr dX2_serve_122 h
        · replace h := h.2 q10
          exact ra_vret E hr dX2_serve_39 h
def f_X2_expireOrders_L2 (a0 : Nat) (K : TM → Prop) : Nat → Int32 → TM → Prop
  | 0, _, _ => False
  | n + 1, x1, M => (((M a0 6) ≤ x1 → K M) ∧ (¬ (M a0 6) ≤ x1 → vp_in x1 30 ∧ ((¬ (M (a0 + 31 + x1.toNatClampNeg) 4) = (M a0 8) → f_X2_expireOrders_L2 a0 K n (x1 + 1) M) ∧ ((M (a0 + 31 + x1.toNatClampNeg) 4) = (M a0 8) → vp_in x1 30 ∧ f_X6_canStillBeEaten (a0 + 31 + x1.toNatClampNeg) M (fun r6 M5 => ((r6 = 0 → f_X2_expireOrders_L2 a0 K n (x1 + 1) M5) ∧ (¬ r6 = 0 → f_X2_removeFromQueue a0 x1 M5 (fun M9 => vp_in x1 30 ∧ f_X6_finish (a0 + 31 + x1.toNatClampNeg) (4 : Int32) M9 (fun M11 => ∀ M12, M12 = u2 M11 a0 9 ((M11 a0 9) - (2 : Int32)) → ∀ M13, M13 = u2 M12 a0 13 ((M12 a0 13) + (1 : Int32)) → f_X2_expireOrders_L2 a0 K n (x1 + 1) M13)))))))))
set_option maxRecDepth 100000 in
set_option maxHeartbeats 4000000 in
theorem l_X2_expireOrders_L2 {p : Program} {l : Launch} {e : Env} {s : State} {m : MethodId} {args : Array Value} {below : List Frame} {meth : Method} {c : Code} {D : va_G} {tc : Nat → ClassId} {ad : Nat → Nat} (a0 : Nat) (h0 : IsCanal a0) {K : TM → Prop} (E : Ev p s m args meth c D tc ad RX2 cX2_expireOrders 2) (hr : meth.sig.returnType = none) : ∀ (n : Nat) (x1 : Int32) (M : TM) , f_X2_expireOrders_L2 a0 K n x1 M → Wa p l e (rmD 2) s m args below meth c 0 0 (MQ below (va_Qv K (EndW D tc ad) (A0 ad s.heap.size)) args s 0 0 (A0 ad s.heap.size)) D tc ad 2 M 2 [(0, .ref (ad a0)), (1, .int x1)] [] := by
  intro n
  induction n with
  | zero => intro x1 M  h; exact h.elim
  | succ n ih =>
    intro x1 M  h
    unfold f_X2_expireOrders_L2 at h
    refine ra_iload_n E dX2_expireOrders_2 rfl 1 rfl ?_
    refine ra_aload_n E dX2_expireOrders_3 rfl 0 rfl ?_
    refine gf_X2_6 E h0 fl_X2_37 dX2_expireOrders_4 ?_
    refine ra_icmp_ge (tgt := 81) E dX2_expireOrders_7 (by decide) (fun q1 => ?_) (fun q1 => ?_)
    · replace h := h.1 q1
      exact ra_vret E hr dX2_expireOrders_81 h
    · replace h := h.2 q1
      refine ra_aload_n E dX2_expireOrders_10 rfl 0 rfl ?_
      refine gf_X2_7 E h0 fl_X2_42 dX2_expireOrders_11 ?_
      refine ra_iload_n E dX2_expireOrders_14 rfl 1 rfl ?_
      obtain ⟨g2, h⟩ := h
      refine ra_aald E (lm (h0.add (by decide))) (cel_ords tc ad h0) rfl g2 dX2_expireOrders_15 ?_
      refine gf_X6_4 E (isOrder_of h0 g2) fl_X2_141 dX2_expireOrders_16 ?_
      refine ra_aload_n E dX2_expireOrders_19 rfl 0 rfl ?_
      refine gf_X2_8 E h0 fl_X2_46 dX2_expireOrders_20 ?_
      refine ra_icmp_ne (tgt := 75) E dX2_expireOrders_23 (by decide) (fun q3 => ?_) (fun q3 => ?_)
      · replace h := h.1 q3
        refine ra_iinc1 (L' := [(1, _), (0, _)]) E dX2_expireOrders_75 1 rfl (by decide) rfl ?_
        refine ra_goto (tgt := 2) E dX2_expireOrders_78 (by decide) ?_
        exact ra_sub (L' := [(0, _), (1, _)]) [1, 0] rfl (ih _ _ h)
      · replace h := h.2 q3
        refine ra_aload_n E dX2_expireOrders_26 rfl 0 rfl ?_
        refine gf_X2_7 E h0 fl_X2_42 dX2_expireOrders_27 ?_
        refine ra_iload_n E dX2_expireOrders_30 rfl 1 rfl ?_
        obtain ⟨g4, h⟩ := h
        refine ra_aald E (lm (h0.add (by decide))) (cel_ords tc ad h0) rfl g4 dX2_expireOrders_31 ?_
        refine ra_callIV (rest := []) E (c_X6_canStillBeEaten _ (isOrder_of h0 g4) _ _ h) (lq_X6 _) cv_X6_canStillBeEaten ml_X2_106 (by decide) (lm (isOrder_of h0 g4).lt) (fun R => ⟨_, cel_order tc ad (isOrder_of h0 g4) R⟩) rfl rfl rfl (Nat.le_of_ble_eq_true rfl) ⟨Nat.le_of_ble_eq_true rfl, Nat.le_of_ble_eq_true rfl⟩ ⟨Nat.zero_le _, Nat.zero_le _⟩ dX2_expireOrders_32 (fun r6 M5 h => ?_)
        obtain ⟨b7, h⟩ := h
        refine ra_if_eq (tgt := 75) E dX2_expireOrders_35 (by decide) (fun q8 => ?_) (fun q8 => ?_)
        · replace h := h.1 q8
          refine ra_iinc1 (L' := [(1, _), (0, _)]) E dX2_expireOrders_75 1 rfl (by decide) rfl ?_
          refine ra_goto (tgt := 2) E dX2_expireOrders_78 (by decide) ?_
          exact ra_sub (L' := [(0, _), (1, _)]) [1, 0] rfl (ih _ _ h)
        · replace h := h.2 q8
          refine ra_aload_n E dX2_expireOrders_38 rfl 0 rfl ?_
          refine ra_iload_n E dX2_expireOrders_39 rfl 1 rfl ?_
          refine ra_callVV (rest := []) E (c_X2_removeFromQueue _ h0 _ _ _ h) (lq_X2 _) cv_X2_removeFromQueue ml_X2_210 (by decide) (lm (h0.add (j := 0) (by decide))) (fun R => ⟨_, cel_canal tc ad h0 R⟩) rfl rfl rfl (Nat.le_of_ble_eq_true rfl) ⟨Nat.le_of_ble_eq_true rfl, Nat.le_of_ble_eq_true rfl⟩ ⟨Nat.zero_le _, Nat.zero_le _⟩ dX2_expireOrders_40 (fun M9 h => ?_)
          refine ra_aload_n E dX2_expireOrders_43 rfl 0 rfl ?_
          refine gf_X2_7 E h0 fl_X2_42 dX2_expireOrders_44 ?_
          refine ra_iload_n E dX2_expireOrders_47 rfl 1 rfl ?_
          obtain ⟨g10, h⟩ := h
          refine ra_aald E (lm (h0.add (by decide))) (cel_ords tc ad h0) rfl g10 dX2_expireOrders_48 ?_
          refine gs_O (i := 4) E 4 (by decide) rfl (by decide) fl_X2_271 dX2_expireOrders_49 ?_
          refine ra_callVV (rest := []) E (c_X6_finish _ (isOrder_of h0 g10) _ _ _ h) (lq_X6 _) cv_X6_finish ml_X2_267 (by decide) (lm (isOrder_of h0 g10).lt) (fun R => ⟨_, cel_order tc ad (isOrder_of h0 g10) R⟩) rfl rfl rfl (Nat.le_of_ble_eq_true rfl) ⟨Nat.le_of_ble_eq_true rfl, Nat.le_of_ble_eq_true rfl⟩ ⟨Nat.zero_le _, Nat.zero_le _⟩ dX2_expireOrders_52 (fun M11 h => ?_)
          refine ra_aload_n E dX2_expireOrders_55 rfl 0 rfl ?_
          refine ra_dup E dX2_expireOrders_56 rfl ?_
          refine gf_X2_9 E h0 fl_X2_49 dX2_expireOrders_57 ?_
          refine ra_iconst E dX2_expireOrders_60 ki_2 ?_
          refine ra_isub E dX2_expireOrders_61 ?_
          refine pf_X2_9 E h0 fl_X2_49 dX2_expireOrders_62 ?_
          replace h := h _ rfl
          refine ra_aload_n E dX2_expireOrders_65 rfl 0 rfl ?_
          refine ra_dup E dX2_expireOrders_66 rfl ?_
          refine gf_X2_13 E h0 fl_X2_61 dX2_expireOrders_67 ?_
          refine ra_iconst E dX2_expireOrders_70 ki_1 ?_
          refine ra_iadd E dX2_expireOrders_71 ?_
          refine pf_X2_13 E h0 fl_X2_61 dX2_expireOrders_72 ?_
          replace h := h _ rfl
          refine ra_iinc1 (L' := [(1, _), (0, _)]) E dX2_expireOrders_75 1 rfl (by decide) rfl ?_
          refine ra_goto (tgt := 2) E dX2_expireOrders_78 (by decide) ?_
          exact ra_sub (L' := [(0, _), (1, _)]) [1, 0] rfl (ih _ _ h)
def f_X2_expireOrders (a0 : Nat) (M : TM) (K : TM → Prop) : Prop := ∃ n2, f_X2_expireOrders_L2 a0 K n2 (0 : Int32) M
set_option maxRecDepth 100000 in
set_option maxHeartbeats 4000000 in
theorem c_X2_expireOrders {ad : Nat → Nat} (a0 : Nat) (h0 : IsCanal a0) (M : TM) (K : TM → Prop) (h : f_X2_expireOrders a0 M K) : MV yX2_expireOrders cX2_expireOrders 2 2 ad [.ref (ad a0)] M K := by
  refine MV_of RX2 rfl (by decide +kernel) (Nat.le_of_ble_eq_true rfl) (fun p l e s m below meth c D tc E hr => ?_)
  unfold f_X2_expireOrders at h
  refine ra_iconst E dX2_expireOrders_0 ki_0 ?_
  refine ra_istore_n (L' := [(1, _), (0, _)]) E dX2_expireOrders_1 rfl (by decide) rfl ?_
  obtain ⟨n14, h⟩ := h
  exact ra_sub (L' := [(0, _), (1, _)]) [1, 0] rfl (l_X2_expireOrders_L2 a0 h0 E hr n14 _ _ h)
