def f_X6_open (a0 : Nat) (M : TM) (K : TM → Prop) : Prop := ∀ M1, M1 = u2 M a0 6 (0 : Int32) → ∀ M2, M2 = u2 M1 a0 7 (-1 : Int32) → ∀ M3, M3 = u2 M2 a0 5 (0 : Int32) → ∀ M4, M4 = u2 M3 a0 3 (M3 a0 2) → K M4
set_option maxRecDepth 100000 in
set_option maxHeartbeats 4000000 in
theorem c_X6_open {ad : Nat → Nat} (a0 : Nat) (h0 : IsOrder a0) (M : TM) (K : TM → Prop) (h : f_X6_open a0 M K) : MV yX6_open cX6_open 1 0 ad [.ref (ad a0)] M K := by
  refine MV_of RX6 rfl (by decide +kernel) (Nat.le_of_ble_eq_true rfl) (fun p l e s m below meth c D tc E hr => ?_)
  unfold f_X6_open at h
  refine ra_aload_n E dX6_open_0 rfl 0 rfl ?_
  refine gs_O (i := 0) E 0 (by decide) rfl (by decide) fl_X6_31 dX6_open_1 ?_
  refine pf_X6_6 E h0 _ rfl fl_X6_37 dX6_open_4 ?_
  replace h := h _ rfl
  refine ra_aload_n E dX6_open_7 rfl 0 rfl ?_
  refine ra_iconst E dX6_open_8 ki_m1 ?_
  refine pf_X6_7 E h0 fl_X6_40 dX6_open_9 ?_
  replace h := h _ rfl
  refine ra_aload_n E dX6_open_12 rfl 0 rfl ?_
  refine ra_iconst E dX6_open_13 ki_0 ?_
  refine pf_X6_5 E h0 fl_X6_27 (by decide) dX6_open_14 ?_
  replace h := h _ rfl
  refine ra_aload_n E dX6_open_17 rfl 0 rfl ?_
  refine ra_aload_n E dX6_open_18 rfl 0 rfl ?_
  refine gf_X6_2 E h0 fl_X6_18 dX6_open_19 ?_
  refine pf_X6_3 E h0 fl_X6_21 dX6_open_22 ?_
  replace h := h _ rfl
  exact ra_vret E hr dX6_open_25 h
def f_X6_finish (a0 : Nat) (p1 : Int32) (M : TM) (K : TM → Prop) : Prop := ∀ M1, M1 = u2 M a0 6 p1 → ∀ M2, M2 = u2 M1 a0 7 (-1 : Int32) → K M2
set_option maxRecDepth 100000 in
set_option maxHeartbeats 4000000 in
theorem c_X6_finish {ad : Nat → Nat} (a0 : Nat) (h0 : IsOrder a0) (p1 : Int32) (M : TM) (K : TM → Prop) (h : f_X6_finish a0 p1 M K) : MV yX6_finish cX6_finish 2 0 ad [.ref (ad a0), .ref (ad (2000 + p1.toNatClampNeg))] M K := by
  refine MV_of RX6 rfl (by decide +kernel) (Nat.le_of_ble_eq_true rfl) (fun p l e s m below meth c D tc E hr => ?_)
  unfold f_X6_finish at h
  refine ra_aload_n E dX6_finish_0 rfl 0 rfl ?_
  refine ra_aload_n E dX6_finish_1 rfl 1 rfl ?_
  refine pf_X6_6 E h0 _ rfl fl_X6_37 dX6_finish_2 ?_
  replace h := h _ rfl
  refine ra_aload_n E dX6_finish_5 rfl 0 rfl ?_
  refine ra_iconst E dX6_finish_6 ki_m1 ?_
  refine pf_X6_7 E h0 fl_X6_40 dX6_finish_7 ?_
  replace h := h _ rfl
  exact ra_vret E hr dX6_finish_10 h
def f_X6_isHeld (a0 : Nat) (M : TM) (K : Int32 → TM → Prop) : Prop := vp_in (M a0 6) 5 ∧ (((M a0 6) = (1 : Int32) → K (1 : Int32) M) ∧ (¬ (M a0 6) = (1 : Int32) → vp_in (M a0 6) 5 ∧ ((¬ (M a0 6) = (2 : Int32) → K (0 : Int32) M) ∧ ((M a0 6) = (2 : Int32) → K (1 : Int32) M))))
set_option maxRecDepth 100000 in
set_option maxHeartbeats 4000000 in
theorem c_X6_isHeld {ad : Nat → Nat} (a0 : Nat) (h0 : IsOrder a0) (M : TM) (K : Int32 → TM → Prop) (h : f_X6_isHeld a0 M K) : MI yX6_isHeld cX6_isHeld 1 (some .boolean) 0 ad [.ref (ad a0)] M (fun r M' => (r = 0 ∨ r = 1) ∧ K r M') := by
  refine MI_of RX6 rfl (by decide +kernel) (Nat.le_of_ble_eq_true rfl) (fun p l e s m below meth c D tc E hr => ?_)
  unfold f_X6_isHeld at h
  refine ra_aload_n E dX6_isHeld_0 rfl 0 rfl ?_
  refine gf_X6_6 E h0 fl_X6_37 dX6_isHeld_1 ?_
  refine gs_O (i := 1) E 1 (by decide) rfl (by decide) fl_X6_46 dX6_isHeld_4 ?_
  obtain ⟨g2, h⟩ := h
  refine acmpO_eq (tgt := 20) E g2 (vpl _ _ (by decide)) dX6_isHeld_7 (by decide) (fun q1 => ?_) (fun q1 => ?_)
  · replace h := h.1 q1
    refine ra_iconst E dX6_isHeld_20 ki_1 ?_
    refine ra_goto (tgt := 25) E dX6_isHeld_21 (by decide) ?_
    exact ra_zret E hr rfl dX6_isHeld_25 ⟨Or.inr rfl, h⟩
  · replace h := h.2 q1
    refine ra_aload_n E dX6_isHeld_10 rfl 0 rfl ?_
    refine gf_X6_6 E h0 fl_X6_37 dX6_isHeld_11 ?_
    refine gs_O (i := 2) E 2 (by decide) rfl (by decide) fl_X6_49 dX6_isHeld_14 ?_
    obtain ⟨g4, h⟩ := h
    refine acmpO_ne (tgt := 24) E g4 (vpl _ _ (by decide)) dX6_isHeld_17 (by decide) (fun q3 => ?_) (fun q3 => ?_)
    · replace h := h.1 q3
      refine ra_iconst E dX6_isHeld_24 ki_0 ?_
      exact ra_zret E hr rfl dX6_isHeld_25 ⟨Or.inl rfl, h⟩
    · replace h := h.2 q3
      refine ra_iconst E dX6_isHeld_20 ki_1 ?_
      refine ra_goto (tgt := 25) E dX6_isHeld_21 (by decide) ?_
      exact ra_zret E hr rfl dX6_isHeld_25 ⟨Or.inr rfl, h⟩
def f_X6_canStillBeEaten (a0 : Nat) (M : TM) (K : Int32 → TM → Prop) : Prop := vp_in (M a0 6) 5 ∧ (((M a0 6) = (0 : Int32) → K (1 : Int32) M) ∧ (¬ (M a0 6) = (0 : Int32) → f_X6_isHeld a0 M (fun r4 M3 => ((r4 = 0 → K (0 : Int32) M3) ∧ (¬ r4 = 0 → K (1 : Int32) M3)))))
set_option maxRecDepth 100000 in
set_option maxHeartbeats 4000000 in
theorem c_X6_canStillBeEaten {ad : Nat → Nat} (a0 : Nat) (h0 : IsOrder a0) (M : TM) (K : Int32 → TM → Prop) (h : f_X6_canStillBeEaten a0 M K) : MI yX6_canStillBeEaten cX6_canStillBeEaten 1 (some .boolean) 1 ad [.ref (ad a0)] M (fun r M' => (r = 0 ∨ r = 1) ∧ K r M') := by
  refine MI_of RX6 rfl (by decide +kernel) (Nat.le_of_ble_eq_true rfl) (fun p l e s m below meth c D tc E hr => ?_)
  unfold f_X6_canStillBeEaten at h
  refine ra_aload_n E dX6_canStillBeEaten_0 rfl 0 rfl ?_
  refine gf_X6_6 E h0 fl_X6_37 dX6_canStillBeEaten_1 ?_
  refine gs_O (i := 0) E 0 (by decide) rfl (by decide) fl_X6_31 dX6_canStillBeEaten_4 ?_
  obtain ⟨g2, h⟩ := h
  refine acmpO_eq (tgt := 17) E g2 (vpl _ _ (by decide)) dX6_canStillBeEaten_7 (by decide) (fun q1 => ?_) (fun q1 => ?_)
  · replace h := h.1 q1
    refine ra_iconst E dX6_canStillBeEaten_17 ki_1 ?_
    refine ra_goto (tgt := 22) E dX6_canStillBeEaten_18 (by decide) ?_
    exact ra_zret E hr rfl dX6_canStillBeEaten_22 ⟨Or.inr rfl, h⟩
  · replace h := h.2 q1
    refine ra_aload_n E dX6_canStillBeEaten_10 rfl 0 rfl ?_
    refine ra_callIV (rest := []) E (c_X6_isHeld _ h0 _ _ h) (lq_X6 _) cv_X6_isHeld ml_X6_52 (by decide) (lm h0.lt) (fun R => ⟨_, cel_order tc ad h0 R⟩) rfl rfl rfl (Nat.le_of_ble_eq_true rfl) ⟨Nat.le_of_ble_eq_true rfl, Nat.le_of_ble_eq_true rfl⟩ ⟨Nat.zero_le _, Nat.zero_le _⟩ dX6_canStillBeEaten_11 (fun r4 M3 h => ?_)
    obtain ⟨b5, h⟩ := h
    refine ra_if_eq (tgt := 21) E dX6_canStillBeEaten_14 (by decide) (fun q6 => ?_) (fun q6 => ?_)
    · replace h := h.1 q6
      refine ra_iconst E dX6_canStillBeEaten_21 ki_0 ?_
      exact ra_zret E hr rfl dX6_canStillBeEaten_22 ⟨Or.inl rfl, h⟩
    · replace h := h.2 q6
      refine ra_iconst E dX6_canStillBeEaten_17 ki_1 ?_
      refine ra_goto (tgt := 22) E dX6_canStillBeEaten_18 (by decide) ?_
      exact ra_zret E hr rfl dX6_canStillBeEaten_22 ⟨Or.inr rfl, h⟩
def f_X6_worth (a0 : Nat) (M : TM) (K : Int32 → TM → Prop) : Prop := K ((M a0 1) * ((3 : Int32) + (M a0 2))) M
set_option maxRecDepth 100000 in
set_option maxHeartbeats 4000000 in
theorem c_X6_worth {ad : Nat → Nat} (a0 : Nat) (h0 : IsOrder a0) (M : TM) (K : Int32 → TM → Prop) (h : f_X6_worth a0 M K) : MI yX6_worth cX6_worth 1 (some .int) 0 ad [.ref (ad a0)] M K := by
  refine MI_of RX6 rfl (by decide +kernel) (Nat.le_of_ble_eq_true rfl) (fun p l e s m below meth c D tc E hr => ?_)
  unfold f_X6_worth at h
  refine ra_aload_n E dX6_worth_0 rfl 0 rfl ?_
  refine gf_X6_1 E h0 fl_X6_15 dX6_worth_1 ?_
  refine ra_iconst E dX6_worth_4 ki_3 ?_
  refine ra_aload_n E dX6_worth_5 rfl 0 rfl ?_
  refine gf_X6_2 E h0 fl_X6_18 dX6_worth_6 ?_
  refine ra_iadd E dX6_worth_9 ?_
  refine ra_imul E dX6_worth_10 ?_
  exact ra_iret E hr dX6_worth_11 h
def f_X9_clear (a0 : Nat) (M : TM) (K : TM → Prop) : Prop := ∀ M1, M1 = u2 M a0 0 (0 : Int32) → ∀ M2, M2 = u2 M1 a0 1 (0 : Int32) → ∀ M3, M3 = u2 M2 a0 2 (-1 : Int32) → K M3
set_option maxRecDepth 100000 in
set_option maxHeartbeats 4000000 in
theorem c_X9_clear {ad : Nat → Nat} (a0 : Nat) (h0 : IsSec a0) (M : TM) (K : TM → Prop) (h : f_X9_clear a0 M K) : MV yX9_clear cX9_clear 1 0 ad [.ref (ad a0)] M K := by
  refine MV_of RX9 rfl (by decide +kernel) (Nat.le_of_ble_eq_true rfl) (fun p l e s m below meth c D tc E hr => ?_)
  unfold f_X9_clear at h
  refine ra_aload_n E dX9_clear_0 rfl 0 rfl ?_
  refine ra_iconst E dX9_clear_1 ki_0 ?_
  refine pf_X9_0 E h0 fl_X9_9 dX9_clear_2 ?_
  replace h := h _ rfl
  refine ra_aload_n E dX9_clear_5 rfl 0 rfl ?_
  refine ra_iconst E dX9_clear_6 ki_0 ?_
  refine pf_X9_1 E h0 fl_X9_15 dX9_clear_7 ?_
  replace h := h _ rfl
  refine ra_aload_n E dX9_clear_10 rfl 0 rfl ?_
  refine ra_iconst E dX9_clear_11 ki_m1 ?_
  refine pf_X9_2 E h0 fl_X9_18 dX9_clear_12 ?_
  replace h := h _ rfl
  exact ra_vret E hr dX9_clear_15 h
def f_X9_copyFrom (a0 : Nat) (a1 : Nat) (M : TM) (K : TM → Prop) : Prop := ∀ M1, M1 = u2 M a0 0 (M a1 0) → ∀ M2, M2 = u2 M1 a0 1 (M1 a1 1) → ∀ M3, M3 = u2 M2 a0 2 (M2 a1 2) → K M3
set_option maxRecDepth 100000 in
set_option maxHeartbeats 4000000 in
theorem c_X9_copyFrom {ad : Nat → Nat} (a0 : Nat) (h0 : IsSec a0) (a1 : Nat) (h1 : IsSec a1) (M : TM) (K : TM → Prop) (h : f_X9_copyFrom a0 a1 M K) : MV yX9_copyFrom cX9_copyFrom 2 0 ad [.ref (ad a0), .ref (ad a1)] M K := by
  refine MV_of RX9 rfl (by decide +kernel) (Nat.le_of_ble_eq_true rfl) (fun p l e s m below meth c D tc E hr => ?_)
  unfold f_X9_copyFrom at h
  refine ra_aload_n E dX9_copyFrom_0 rfl 0 rfl ?_
  refine ra_aload_n E dX9_copyFrom_1 rfl 1 rfl ?_
  refine gf_X9_0 E h1 fl_X9_9 dX9_copyFrom_2 ?_
  refine pf_X9_0 E h0 fl_X9_9 dX9_copyFrom_5 ?_
  replace h := h _ rfl
  refine ra_aload_n E dX9_copyFrom_8 rfl 0 rfl ?_
  refine ra_aload_n E dX9_copyFrom_9 rfl 1 rfl ?_
  refine gf_X9_1 E h1 fl_X9_15 dX9_copyFrom_10 ?_
  refine pf_X9_1 E h0 fl_X9_15 dX9_copyFrom_13 ?_
  replace h := h _ rfl
  refine ra_aload_n E dX9_copyFrom_16 rfl 0 rfl ?_
  refine ra_aload_n E dX9_copyFrom_17 rfl 1 rfl ?_
  refine gf_X9_2 E h1 fl_X9_18 dX9_copyFrom_18 ?_
  refine pf_X9_2 E h0 fl_X9_18 dX9_copyFrom_21 ?_
  replace h := h _ rfl
  exact ra_vret E hr dX9_copyFrom_24 h
def f_X10_hasRoomFor (p1 : Int32) (M : TM) (K : Int32 → TM → Prop) : Prop := (((500 : Int32) < ((M 1 1) + p1) → K (0 : Int32) M) ∧ (¬ (500 : Int32) < ((M 1 1) + p1) → K (1 : Int32) M))
set_option maxRecDepth 100000 in
set_option maxHeartbeats 4000000 in
theorem c_X10_hasRoomFor {ad : Nat → Nat} (p1 : Int32) (M : TM) (K : Int32 → TM → Prop) (h : f_X10_hasRoomFor p1 M K) : MI yX10_hasRoomFor cX10_hasRoomFor 2 (some .boolean) 0 ad [.ref (ad 1), .int p1] M (fun r M' => (r = 0 ∨ r = 1) ∧ K r M') := by
  refine MI_of RX10 rfl (by decide +kernel) (Nat.le_of_ble_eq_true rfl) (fun p l e s m below meth c D tc E hr => ?_)
  unfold f_X10_hasRoomFor at h
  refine ra_aload_n E dX10_hasRoomFor_0 rfl 0 rfl ?_
  refine gf_X10_1 E fl_X10_15 dX10_hasRoomFor_1 ?_
  refine ra_iload_n E dX10_hasRoomFor_4 rfl 1 rfl ?_
  refine ra_iadd E dX10_hasRoomFor_5 ?_
  refine ra_aload_n E dX10_hasRoomFor_6 rfl 0 rfl ?_
  refine gf_X10_0 E fl_X10_9 dX10_hasRoomFor_7 ?_
  refine ra_alen (n := 500) (v := 500) E (lm (by decide)) (fun R => ⟨_, (cel_2 tc ad) R, rfl⟩) rfl (by decide) dX10_hasRoomFor_10 ?_
  refine ra_icmp_gt (tgt := 18) E dX10_hasRoomFor_11 (by decide) (fun q1 => ?_) (fun q1 => ?_)
  · replace h := h.1 q1
    refine ra_iconst E dX10_hasRoomFor_18 ki_0 ?_
    exact ra_zret E hr rfl dX10_hasRoomFor_19 ⟨Or.inl rfl, h⟩
  · replace h := h.2 q1
    refine ra_iconst E dX10_hasRoomFor_14 ki_1 ?_
    refine ra_goto (tgt := 19) E dX10_hasRoomFor_15 (by decide) ?_
    exact ra_zret E hr rfl dX10_hasRoomFor_19 ⟨Or.inr rfl, h⟩
def f_X10_appendByte (p1 : Int32) (M : TM) (K : TM → Prop) : Prop := (((500 : Int32) ≤ (M 1 1) → K M) ∧ (¬ (500 : Int32) ≤ (M 1 1) → vp_in (M 1 1) 500 ∧ ∀ M3, M3 = u2 M 2 (M 1 1).toNatClampNeg (vp_nar .byte (p1.toInt8.toInt32)) → ∀ M4, M4 = u2 M3 1 1 ((M3 1 1) + (1 : Int32)) → K M4))
set_option maxRecDepth 100000 in
set_option maxHeartbeats 4000000 in
theorem c_X10_appendByte {ad : Nat → Nat} (p1 : Int32) (M : TM) (K : TM → Prop) (h : f_X10_appendByte p1 M K) : MV yX10_appendByte cX10_appendByte 2 0 ad [.ref (ad 1), .int p1] M K := by
  refine MV_of RX10 rfl (by decide +kernel) (Nat.le_of_ble_eq_true rfl) (fun p l e s m below meth c D tc E hr => ?_)
  unfold f_X10_appendByte at h
  refine ra_aload_n E dX10_appendByte_0 rfl 0 rfl ?_
  refine gf_X10_1 E fl_X10_15 dX10_appendByte_1 ?_
  refine ra_aload_n E dX10_appendByte_4 rfl 0 rfl ?_
  refine gf_X10_0 E fl_X10_9 dX10_appendByte_5 ?_
  refine ra_alen (n := 500) (v := 500) E (lm (by decide)) (fun R => ⟨_, (cel_2 tc ad) R, rfl⟩) rfl (by decide) dX10_appendByte_8 ?_
  refine ra_icmp_ge (tgt := 33) E dX10_appendByte_9 (by decide) (fun q1 => ?_) (fun q1 => ?_)
  · replace h := h.1 q1
    exact ra_vret E hr dX10_appendByte_33 h
  · replace h := h.2 q1
    refine ra_aload_n E dX10_appendByte_12 rfl 0 rfl ?_
    refine gf_X10_0 E fl_X10_9 dX10_appendByte_13 ?_
    refine ra_aload_n E dX10_appendByte_16 rfl 0 rfl ?_
    refine gf_X10_1 E fl_X10_15 dX10_appendByte_17 ?_
    refine ra_iload_n E dX10_appendByte_20 rfl 1 rfl ?_
    refine ra_i2b E dX10_appendByte_21 rfl ?_
    obtain ⟨g2, h⟩ := h
    refine ra_bast E (lm (by decide)) (cel_2 tc ad) g2 dX10_appendByte_22 ?_
    replace h := h _ rfl
    refine ra_aload_n E dX10_appendByte_23 rfl 0 rfl ?_
    refine ra_dup E dX10_appendByte_24 rfl ?_
    refine gf_X10_1 E fl_X10_15 dX10_appendByte_25 ?_
    refine ra_iconst E dX10_appendByte_28 ki_1 ?_
    refine ra_iadd E dX10_appendByte_29 ?_
    refine pf_X10_1 E fl_X10_15 dX10_appendByte_30 ?_
    replace h := h _ rfl
    exact ra_vret E hr dX10_appendByte_33 h
def f_X10_empty  (M : TM) (K : TM → Prop) : Prop := ∀ M1, M1 = u2 M 1 1 (0 : Int32) → K M1
set_option maxRecDepth 100000 in
set_option maxHeartbeats 4000000 in
theorem c_X10_empty {ad : Nat → Nat}  (M : TM) (K : TM → Prop) (h : f_X10_empty  M K) : MV yX10_empty cX10_empty 1 0 ad [.ref (ad 1)] M K := by
  refine MV_of RX10 rfl (by decide +kernel) (Nat.le_of_ble_eq_true rfl) (fun p l e s m below meth c D tc E hr => ?_)
  unfold f_X10_empty at h
  refine ra_aload_n E dX10_empty_0 rfl 0 rfl ?_
  refine ra_iconst E dX10_empty_1 ki_0 ?_
  refine pf_X10_1 E fl_X10_15 dX10_empty_2 ?_
  replace h := h _ rfl
  exact ra_vret E hr dX10_empty_5 h
def f_X10_failed  (M : TM) (K : Int32 → TM → Prop) : Prop := (((M 1 6) = 0 → K (0 : Int32) M) ∧ (¬ (M 1 6) = 0 → K (1 : Int32) M))
set_option maxRecDepth 100000 in
set_option maxHeartbeats 4000000 in
theorem c_X10_failed {ad : Nat → Nat}  (M : TM) (K : Int32 → TM → Prop) (h : f_X10_failed  M K) : MI yX10_failed cX10_failed 1 (some .boolean) 0 ad [.ref (ad 1)] M (fun r M' => (r = 0 ∨ r = 1) ∧ K r M') := by
  refine MI_of RX10 rfl (by decide +kernel) (Nat.le_of_ble_eq_true rfl) (fun p l e s m below meth c D tc E hr => ?_)
  unfold f_X10_failed at h
  refine ra_aload_n E dX10_failed_0 rfl 0 rfl ?_
  refine gf_X10_6 E fl_X10_31 dX10_failed_1 ?_
  refine ra_if_eq (tgt := 11) E dX10_failed_4 (by decide) (fun q1 => ?_) (fun q1 => ?_)
  · replace h := h.1 q1
    refine ra_iconst E dX10_failed_11 ki_0 ?_
    exact ra_zret E hr rfl dX10_failed_12 ⟨Or.inl rfl, h⟩
  · replace h := h.2 q1
    refine ra_iconst E dX10_failed_7 ki_1 ?_
    refine ra_goto (tgt := 12) E dX10_failed_8 (by decide) ?_
    exact ra_zret E hr rfl dX10_failed_12 ⟨Or.inr rfl, h⟩
def f_X10_failAt (p1 : Int32) (p2 : Int32) (M : TM) (K : TM → Prop) : Prop := ((¬ (M 1 6) = 0 → K M) ∧ ((M 1 6) = 0 → ∀ M2, M2 = u2 M 1 6 p1 → ∀ M3, M3 = u2 M2 1 7 p2 → K M3))
set_option maxRecDepth 100000 in
set_option maxHeartbeats 4000000 in
theorem c_X10_failAt {ad : Nat → Nat} (p1 : Int32) (p2 : Int32) (M : TM) (K : TM → Prop) (h : f_X10_failAt p1 p2 M K) : MV yX10_failAt cX10_failAt 3 0 ad [.ref (ad 1), .int p1, .int p2] M K := by
  refine MV_of RX10 rfl (by decide +kernel) (Nat.le_of_ble_eq_true rfl) (fun p l e s m below meth c D tc E hr => ?_)
  unfold f_X10_failAt at h
  refine ra_aload_n E dX10_failAt_0 rfl 0 rfl ?_
  refine gf_X10_6 E fl_X10_31 dX10_failAt_1 ?_
  refine ra_if_ne (tgt := 17) E dX10_failAt_4 (by decide) (fun q1 => ?_) (fun q1 => ?_)
  · replace h := h.1 q1
    exact ra_vret E hr dX10_failAt_17 h
  · replace h := h.2 q1
    refine ra_aload_n E dX10_failAt_7 rfl 0 rfl ?_
    refine ra_iload_n E dX10_failAt_8 rfl 1 rfl ?_
    refine pf_X10_6 E fl_X10_31 dX10_failAt_9 ?_
    replace h := h _ rfl
    refine ra_aload_n E dX10_failAt_12 rfl 0 rfl ?_
    refine ra_iload_n E dX10_failAt_13 rfl 2 rfl ?_
    refine pf_X10_7 E fl_X10_34 dX10_failAt_14 ?_
    replace h := h _ rfl
    exact ra_vret E hr dX10_failAt_17 h
def f_X10_kindOf_L28 (p0 : Int32) (K : Int32 → TM → Prop) (x0 : Int32) (M : TM) : Prop := ((x0 = 10 → K (2 : Int32) M) ∧ (x0 = 32 → K (2 : Int32) M) ∧ (x0 = 40 → K (6 : Int32) M) ∧ (x0 = 41 → K (7 : Int32) M) ∧ (x0 = 59 → K (5 : Int32) M) ∧ (¬ x0 = 10 → ¬ x0 = 32 → ¬ x0 = 40 → ¬ x0 = 41 → ¬ x0 = 59 → K (1 : Int32) M))
set_option maxRecDepth 100000 in
set_option maxHeartbeats 4000000 in
theorem l_X10_kindOf_L28 {p : Program} {l : Launch} {e : Env} {s : State} {m : MethodId} {args : Array Value} {below : List Frame} {meth : Method} {c : Code} {D : va_G} {tc : Nat → ClassId} {ad : Nat → Nat} (p0 : Int32) {K : Int32 → TM → Prop} (E : Ev p s m args meth c D tc ad RX10 cX10_kindOf 1) (hr : meth.sig.returnType = (some .int)) : ∀ (x0 : Int32) (M : TM) , f_X10_kindOf_L28 p0 K x0 M → Wa p l e (rmD 0) s m args below meth c 0 0 (MQ below (va_Qi K (EndW D tc ad) (A0 ad s.heap.size)) args s 0 0 (A0 ad s.heap.size)) D tc ad 1 M 28 [(0, .int x0)] [] := by
  intro x0 M  h
  unfold f_X10_kindOf_L28 at h
  refine ra_iload_n E dX10_kindOf_28 rfl 0 rfl ?_
  by_cases q3_0 : x0 = 10
  · replace h := h.1 q3_0
    refine ra_lookup (tgt := 80) (off := 51) E dX10_kindOf_29 (by decide) (by rw [q3_0]; decide) (by decide) ?_
    refine ra_iconst E dX10_kindOf_80 ki_2 ?_
    exact ra_iret E hr dX10_kindOf_81 h
  by_cases q3_1 : x0 = 32
  · replace h := h.2.1 q3_1
    refine ra_lookup (tgt := 80) (off := 51) E dX10_kindOf_29 (by decide) (by rw [q3_1]; decide) (by decide) ?_
    refine ra_iconst E dX10_kindOf_80 ki_2 ?_
    exact ra_iret E hr dX10_kindOf_81 h
  by_cases q3_2 : x0 = 40
  · replace h := h.2.2.1 q3_2
    refine ra_lookup (tgt := 84) (off := 55) E dX10_kindOf_29 (by decide) (by rw [q3_2]; decide) (by decide) ?_
    refine ra_bipush E dX10_kindOf_84 kb_6 ?_
    exact ra_iret E hr dX10_kindOf_86 h
  by_cases q3_3 : x0 = 41
  · replace h := h.2.2.2.1 q3_3
    refine ra_lookup (tgt := 87) (off := 58) E dX10_kindOf_29 (by decide) (by rw [q3_3]; decide) (by decide) ?_
    refine ra_bipush E dX10_kindOf_87 kb_7 ?_
    exact ra_iret E hr dX10_kindOf_89 h
  by_cases q3_4 : x0 = 59
  · replace h := h.2.2.2.2.1 q3_4
    refine ra_lookup (tgt := 82) (off := 53) E dX10_kindOf_29 (by decide) (by rw [q3_4]; decide) (by decide) ?_
    refine ra_iconst E dX10_kindOf_82 ki_5 ?_
    exact ra_iret E hr dX10_kindOf_83 h
  replace h := h.2.2.2.2.2 q3_0 q3_1 q3_2 q3_3 q3_4
  refine ra_lookup (tgt := 90) (off := 61) E dX10_kindOf_29 (by decide) (by show Op.lookupswitch.offset [(10, 51), (32, 51), (40, 55), (41, 58), (59, 53)] 61 _ = _; rw [Op.lookupswitch.offset_cons, if_neg (lk_ne q3_0 (by decide)), Op.lookupswitch.offset_cons, if_neg (lk_ne q3_1 (by decide)), Op.lookupswitch.offset_cons, if_neg (lk_ne q3_2 (by decide)), Op.lookupswitch.offset_cons, if_neg (lk_ne q3_3 (by decide)), Op.lookupswitch.offset_cons, if_neg (lk_ne q3_4 (by decide)), Op.lookupswitch.offset_nil]) (by decide) ?_
  refine ra_iconst E dX10_kindOf_90 ki_1 ?_
  exact ra_iret E hr dX10_kindOf_91 h
def f_X10_kindOf_L14 (p0 : Int32) (K : Int32 → TM → Prop) (x0 : Int32) (M : TM) : Prop := ((x0 < (48 : Int32) → f_X10_kindOf_L28 p0 K x0 M) ∧ (¬ x0 < (48 : Int32) → (((57 : Int32) < x0 → f_X10_kindOf_L28 p0 K x0 M) ∧ (¬ (57 : Int32) < x0 → K (4 : Int32) M))))
set_option maxRecDepth 100000 in
set_option maxHeartbeats 4000000 in
theorem l_X10_kindOf_L14 {p : Program} {l : Launch} {e : Env} {s : State} {m : MethodId} {args : Array Value} {below : List Frame} {meth : Method} {c : Code} {D : va_G} {tc : Nat → ClassId} {ad : Nat → Nat} (p0 : Int32) {K : Int32 → TM → Prop} (E : Ev p s m args meth c D tc ad RX10 cX10_kindOf 1) (hr : meth.sig.returnType = (some .int)) : ∀ (x0 : Int32) (M : TM) , f_X10_kindOf_L14 p0 K x0 M → Wa p l e (rmD 0) s m args below meth c 0 0 (MQ below (va_Qi K (EndW D tc ad) (A0 ad s.heap.size)) args s 0 0 (A0 ad s.heap.size)) D tc ad 1 M 14 [(0, .int x0)] [] := by
  intro x0 M  h
  unfold f_X10_kindOf_L14 at h
  refine ra_iload_n E dX10_kindOf_14 rfl 0 rfl ?_
  refine ra_bipush E dX10_kindOf_15 kb_48 ?_
  refine ra_icmp_lt (tgt := 28) E dX10_kindOf_17 (by decide) (fun q2 => ?_) (fun q2 => ?_)
  · replace h := h.1 q2
    exact ra_sub (L' := [(0, _)]) [0] rfl (l_X10_kindOf_L28 p0 E hr _ _ h)
  · replace h := h.2 q2
    refine ra_iload_n E dX10_kindOf_20 rfl 0 rfl ?_
    refine ra_bipush E dX10_kindOf_21 kb_57 ?_
    refine ra_icmp_gt (tgt := 28) E dX10_kindOf_23 (by decide) (fun q4 => ?_) (fun q4 => ?_)
    · replace h := h.1 q4
      exact ra_sub (L' := [(0, _)]) [0] rfl (l_X10_kindOf_L28 p0 E hr _ _ h)
    · replace h := h.2 q4
      refine ra_iconst E dX10_kindOf_26 ki_4 ?_
      exact ra_iret E hr dX10_kindOf_27 h
def f_X10_kindOf (p0 : Int32) (M : TM) (K : Int32 → TM → Prop) : Prop := ((p0 < (97 : Int32) → f_X10_kindOf_L14 p0 K p0 M) ∧ (¬ p0 < (97 : Int32) → (((122 : Int32) < p0 → f_X10_kindOf_L14 p0 K p0 M) ∧ (¬ (122 : Int32) < p0 → K (3 : Int32) M))))
set_option maxRecDepth 100000 in
set_option maxHeartbeats 4000000 in
theorem c_X10_kindOf {ad : Nat → Nat} (p0 : Int32) (M : TM) (K : Int32 → TM → Prop) (h : f_X10_kindOf p0 M K) : MI yX10_kindOf cX10_kindOf 1 (some .int) 0 ad [.int p0] M K := by
  refine MI_of RX10 rfl (by decide +kernel) (Nat.le_of_ble_eq_true rfl) (fun p l e s m below meth c D tc E hr => ?_)
  unfold f_X10_kindOf at h
  refine ra_iload_n E dX10_kindOf_0 rfl 0 rfl ?_
  refine ra_bipush E dX10_kindOf_1 kb_97 ?_
  refine ra_icmp_lt (tgt := 14) E dX10_kindOf_3 (by decide) (fun q1 => ?_) (fun q1 => ?_)
  · replace h := h.1 q1
    exact ra_sub (L' := [(0, _)]) [0] rfl (l_X10_kindOf_L14 p0 E hr _ _ h)
  · replace h := h.2 q1
    refine ra_iload_n E dX10_kindOf_6 rfl 0 rfl ?_
    refine ra_bipush E dX10_kindOf_7 kb_122 ?_
    refine ra_icmp_gt (tgt := 14) E dX10_kindOf_9 (by decide) (fun q5 => ?_) (fun q5 => ?_)
    · replace h := h.1 q5
      exact ra_sub (L' := [(0, _)]) [0] rfl (l_X10_kindOf_L14 p0 E hr _ _ h)
    · replace h := h.2 q5
      refine ra_iconst E dX10_kindOf_12 ki_3 ?_
      exact ra_iret E hr dX10_kindOf_13 h
def f_X10_isAt (p1 : Int32) (M : TM) (K : Int32 → TM → Prop) : Prop := ((¬ (M 1 6) = 0 → K (0 : Int32) M) ∧ ((M 1 6) = 0 → ((¬ (M 1 3) = p1 → K (0 : Int32) M) ∧ ((M 1 3) = p1 → K (1 : Int32) M))))
set_option maxRecDepth 100000 in
set_option maxHeartbeats 4000000 in
theorem c_X10_isAt {ad : Nat → Nat} (p1 : Int32) (M : TM) (K : Int32 → TM → Prop) (h : f_X10_isAt p1 M K) : MI yX10_isAt cX10_isAt 2 (some .boolean) 0 ad [.ref (ad 1), .int p1] M (fun r M' => (r = 0 ∨ r = 1) ∧ K r M') := by
  refine MI_of RX10 rfl (by decide +kernel) (Nat.le_of_ble_eq_true rfl) (fun p l e s m below meth c D tc E hr => ?_)
  unfold f_X10_isAt at h
  refine ra_aload_n E dX10_isAt_0 rfl 0 rfl ?_
  refine gf_X10_6 E fl_X10_31 dX10_isAt_1 ?_
  refine ra_if_ne (tgt := 19) E dX10_isAt_4 (by decide) (fun q1 => ?_) (fun q1 => ?_)
  · replace h := h.1 q1
    refine ra_iconst E dX10_isAt_19 ki_0 ?_
    exact ra_zret E hr rfl dX10_isAt_20 ⟨Or.inl rfl, h⟩
  · replace h := h.2 q1
    refine ra_aload_n E dX10_isAt_7 rfl 0 rfl ?_
    refine gf_X10_3 E fl_X10_22 dX10_isAt_8 ?_
    refine ra_iload_n E dX10_isAt_11 rfl 1 rfl ?_
    refine ra_icmp_ne (tgt := 19) E dX10_isAt_12 (by decide) (fun q2 => ?_) (fun q2 => ?_)
    · replace h := h.1 q2
      refine ra_iconst E dX10_isAt_19 ki_0 ?_
      exact ra_zret E hr rfl dX10_isAt_20 ⟨Or.inl rfl, h⟩
    · replace h := h.2 q2
      refine ra_iconst E dX10_isAt_15 ki_1 ?_
      refine ra_goto (tgt := 20) E dX10_isAt_16 (by decide) ?_
      exact ra_zret E hr rfl dX10_isAt_20 ⟨Or.inr rfl, h⟩
def f_X12_errorCode  (M : TM) (K : Int32 → TM → Prop) : Prop := K (M 1 6) M
set_option maxRecDepth 100000 in
set_option maxHeartbeats 4000000 in
theorem c_X12_errorCode {ad : Nat → Nat}  (M : TM) (K : Int32 → TM → Prop) (h : f_X12_errorCode  M K) : MI yX12_errorCode cX12_errorCode 1 (some .int) 0 ad [.ref (ad 0)] M K := by
  refine MI_of RX12 rfl (by decide +kernel) (Nat.le_of_ble_eq_true rfl) (fun p l e s m below meth c D tc E hr => ?_)
  unfold f_X12_errorCode at h
  refine ra_aload_n E dX12_errorCode_0 rfl 0 rfl ?_
  refine gf_X12_0 E fl_X12_10 dX12_errorCode_1 ?_
  refine gf_X10_6 E fl_X12_103 dX12_errorCode_4 ?_
  exact ra_iret E hr dX12_errorCode_7 h
def f_X12_errorOffset  (M : TM) (K : Int32 → TM → Prop) : Prop := K (M 1 7) M
set_option maxRecDepth 100000 in
set_option maxHeartbeats 4000000 in
theorem c_X12_errorOffset {ad : Nat → Nat}  (M : TM) (K : Int32 → TM → Prop) (h : f_X12_errorOffset  M K) : MI yX12_errorOffset cX12_errorOffset 1 (some .int) 0 ad [.ref (ad 0)] M K := by
  refine MI_of RX12 rfl (by decide +kernel) (Nat.le_of_ble_eq_true rfl) (fun p l e s m below meth c D tc E hr => ?_)
  unfold f_X12_errorOffset at h
  refine ra_aload_n E dX12_errorOffset_0 rfl 0 rfl ?_
  refine gf_X12_0 E fl_X12_10 dX12_errorOffset_1 ?_
  refine gf_X10_7 E fl_X12_106 dX12_errorOffset_4 ?_
  exact ra_iret E hr dX12_errorOffset_7 h
def f_X12_minute  (M : TM) (K : Int32 → TM → Prop) : Prop := vp_in (M 0 5) 11 ∧ K (M (27 + 61 * (M 0 5).toNatClampNeg) 8) M
set_option maxRecDepth 100000 in
set_option maxHeartbeats 4000000 in
theorem c_X12_minute {ad : Nat → Nat}  (M : TM) (K : Int32 → TM → Prop) (h : f_X12_minute  M K) : MI yX12_minute cX12_minute 1 (some .int) 0 ad [.ref (ad 0)] M K := by
  refine MI_of RX12 rfl (by decide +kernel) (Nat.le_of_ble_eq_true rfl) (fun p l e s m below meth c D tc E hr => ?_)
  unfold f_X12_minute at h
  refine ra_aload_n E dX12_minute_0 rfl 0 rfl ?_
  obtain ⟨g1, h⟩ := h
  refine gf_X12_5 E fl_X12_41 dX12_minute_1 ?_
  refine gf_X2_8 E (isCanal_of g1) fl_X12_109 dX12_minute_4 ?_
  exact ra_iret E hr dX12_minute_7 h
def f_X12_placeCount  (M : TM) (K : Int32 → TM → Prop) : Prop := vp_in (M 0 5) 11 ∧ K (M (27 + 61 * (M 0 5).toNatClampNeg) 0) M
set_option maxRecDepth 100000 in
set_option maxHeartbeats 4000000 in
theorem c_X12_placeCount {ad : Nat → Nat}  (M : TM) (K : Int32 → TM → Prop) (h : f_X12_placeCount  M K) : MI yX12_placeCount cX12_placeCount 1 (some .int) 0 ad [.ref (ad 0)] M K := by
  refine MI_of RX12 rfl (by decide +kernel) (Nat.le_of_ble_eq_true rfl) (fun p l e s m below meth c D tc E hr => ?_)
  unfold f_X12_placeCount at h
  refine ra_aload_n E dX12_placeCount_0 rfl 0 rfl ?_
  obtain ⟨g1, h⟩ := h
  refine gf_X12_5 E fl_X12_41 dX12_placeCount_1 ?_
  refine gf_X2_0 E (isCanal_of g1) fl_X12_112 dX12_placeCount_4 ?_
  exact ra_iret E hr dX12_placeCount_7 h
def f_X12_bargeCount  (M : TM) (K : Int32 → TM → Prop) : Prop := vp_in (M 0 5) 11 ∧ K (M (27 + 61 * (M 0 5).toNatClampNeg) 4) M
set_option maxRecDepth 100000 in
set_option maxHeartbeats 4000000 in
theorem c_X12_bargeCount {ad : Nat → Nat}  (M : TM) (K : Int32 → TM → Prop) (h : f_X12_bargeCount  M K) : MI yX12_bargeCount cX12_bargeCount 1 (some .int) 0 ad [.ref (ad 0)] M K := by
  refine MI_of RX12 rfl (by decide +kernel) (Nat.le_of_ble_eq_true rfl) (fun p l e s m below meth c D tc E hr => ?_)
  unfold f_X12_bargeCount at h
  refine ra_aload_n E dX12_bargeCount_0 rfl 0 rfl ?_
  obtain ⟨g1, h⟩ := h
  refine gf_X12_5 E fl_X12_41 dX12_bargeCount_1 ?_
  refine gf_X2_4 E (isCanal_of g1) fl_X12_100 dX12_bargeCount_4 ?_
  exact ra_iret E hr dX12_bargeCount_7 h
def f_X12_orderCount  (M : TM) (K : Int32 → TM → Prop) : Prop := vp_in (M 0 5) 11 ∧ K (M (27 + 61 * (M 0 5).toNatClampNeg) 6) M
set_option maxRecDepth 100000 in
set_option maxHeartbeats 4000000 in
theorem c_X12_orderCount {ad : Nat → Nat}  (M : TM) (K : Int32 → TM → Prop) (h : f_X12_orderCount  M K) : MI yX12_orderCount cX12_orderCount 1 (some .int) 0 ad [.ref (ad 0)] M K := by
  refine MI_of RX12 rfl (by decide +kernel) (Nat.le_of_ble_eq_true rfl) (fun p l e s m below meth c D tc E hr => ?_)
  unfold f_X12_orderCount at h
  refine ra_aload_n E dX12_orderCount_0 rfl 0 rfl ?_
  obtain ⟨g1, h⟩ := h
  refine gf_X12_5 E fl_X12_41 dX12_orderCount_1 ?_
  refine gf_X2_6 E (isCanal_of g1) fl_X12_187 dX12_orderCount_4 ?_
  exact ra_iret E hr dX12_orderCount_7 h
def f_X12_mostUrgentOrder  (M : TM) (K : Int32 → TM → Prop) : Prop := vp_in (M 0 5) 11 ∧ f_X2_firstOpenByDeadline (27 + 61 * (M 0 5).toNatClampNeg) M (fun r3 M2 => K r3 M2)
set_option maxRecDepth 100000 in
set_option maxHeartbeats 4000000 in
theorem c_X12_mostUrgentOrder {ad : Nat → Nat}  (M : TM) (K : Int32 → TM → Prop) (h : f_X12_mostUrgentOrder  M K) : MI yX12_mostUrgentOrder cX12_mostUrgentOrder 1 (some .int) 1 ad [.ref (ad 0)] M K := by
  refine MI_of RX12 rfl (by decide +kernel) (Nat.le_of_ble_eq_true rfl) (fun p l e s m below meth c D tc E hr => ?_)
  unfold f_X12_mostUrgentOrder at h
  refine ra_aload_n E dX12_mostUrgentOrder_0 rfl 0 rfl ?_
  obtain ⟨g1, h⟩ := h
  refine gf_X12_5 E fl_X12_41 dX12_mostUrgentOrder_1 ?_
  refine ra_callIV (rest := []) E (c_X2_firstOpenByDeadline _ (isCanal_of g1) _ _ h) (lq_X2 _) cv_X2_firstOpenByDeadline ml_X12_227 (by decide) (lm ((isCanal_of g1).add (j := 0) (by decide))) (fun R => ⟨_, cel_canal tc ad (isCanal_of g1) R⟩) rfl rfl rfl (Nat.le_of_ble_eq_true rfl) ⟨Nat.le_of_ble_eq_true rfl, Nat.le_of_ble_eq_true rfl⟩ ⟨Nat.zero_le _, Nat.zero_le _⟩ dX12_mostUrgentOrder_4 (fun r3 M2 h => ?_)
  exact ra_iret E hr dX12_mostUrgentOrder_7 h
def f_X12_coins  (M : TM) (K : Int32 → TM → Prop) : Prop := vp_in (M 0 5) 11 ∧ K (M (27 + 61 * (M 0 5).toNatClampNeg) 9) M
set_option maxRecDepth 100000 in
set_option maxHeartbeats 4000000 in
theorem c_X12_coins {ad : Nat → Nat}  (M : TM) (K : Int32 → TM → Prop) (h : f_X12_coins  M K) : MI yX12_coins cX12_coins 1 (some .int) 0 ad [.ref (ad 0)] M K := by
  refine MI_of RX12 rfl (by decide +kernel) (Nat.le_of_ble_eq_true rfl) (fun p l e s m below meth c D tc E hr => ?_)
  unfold f_X12_coins at h
  refine ra_aload_n E dX12_coins_0 rfl 0 rfl ?_
  obtain ⟨g1, h⟩ := h
  refine gf_X12_5 E fl_X12_41 dX12_coins_1 ?_
  refine gf_X2_9 E (isCanal_of g1) fl_X12_230 dX12_coins_4 ?_
  exact ra_iret E hr dX12_coins_7 h
def f_X12_eatenBowls  (M : TM) (K : Int32 → TM → Prop) : Prop := vp_in (M 0 5) 11 ∧ K (M (27 + 61 * (M 0 5).toNatClampNeg) 11) M
set_option maxRecDepth 100000 in
set_option maxHeartbeats 4000000 in
theorem c_X12_eatenBowls {ad : Nat → Nat}  (M : TM) (K : Int32 → TM → Prop) (h : f_X12_eatenBowls  M K) : MI yX12_eatenBowls cX12_eatenBowls 1 (some .int) 0 ad [.ref (ad 0)] M K := by
  refine MI_of RX12 rfl (by decide +kernel) (Nat.le_of_ble_eq_true rfl) (fun p l e s m below meth c D tc E hr => ?_)
  unfold f_X12_eatenBowls at h
  refine ra_aload_n E dX12_eatenBowls_0 rfl 0 rfl ?_
  obtain ⟨g1, h⟩ := h
  refine gf_X12_5 E fl_X12_41 dX12_eatenBowls_1 ?_
  refine gf_X2_11 E (isCanal_of g1) fl_X12_233 dX12_eatenBowls_4 ?_
  exact ra_iret E hr dX12_eatenBowls_7 h
def f_X12_expiredOrders  (M : TM) (K : Int32 → TM → Prop) : Prop := vp_in (M 0 5) 11 ∧ K (M (27 + 61 * (M 0 5).toNatClampNeg) 13) M
set_option maxRecDepth 100000 in
set_option maxHeartbeats 4000000 in
theorem c_X12_expiredOrders {ad : Nat → Nat}  (M : TM) (K : Int32 → TM → Prop) (h : f_X12_expiredOrders  M K) : MI yX12_expiredOrders cX12_expiredOrders 1 (some .int) 0 ad [.ref (ad 0)] M K := by
  refine MI_of RX12 rfl (by decide +kernel) (Nat.le_of_ble_eq_true rfl) (fun p l e s m below meth c D tc E hr => ?_)
  unfold f_X12_expiredOrders at h
  refine ra_aload_n E dX12_expiredOrders_0 rfl 0 rfl ?_
  obtain ⟨g1, h⟩ := h
  refine gf_X12_5 E fl_X12_41 dX12_expiredOrders_1 ?_
  refine gf_X2_13 E (isCanal_of g1) fl_X12_236 dX12_expiredOrders_4 ?_
  exact ra_iret E hr dX12_expiredOrders_7 h
def f_X12_meanCleanPairs  (M : TM) (K : UInt64 → TM → Prop) : Prop := vp_in (M 0 5) 11 ∧ (((1 : Int32) ≤ (M (27 + 61 * (M 0 5).toNatClampNeg) 4) → vp_in (M 0 5) 11 ∧ f_X2_sumOfCleanPairs (27 + 61 * (M 0 5).toNatClampNeg) M (fun r5 M4 => vp_in (M4 0 5) 11 ∧ vf_n64 (FP.ddiv (FP.i2d r5) (FP.i2d (M4 (27 + 61 * (M4 0 5).toNatClampNeg) 4))) ∧ K (FP.ddiv (FP.i2d r5) (FP.i2d (M4 (27 + 61 * (M4 0 5).toNatClampNeg) 4))) M4)) ∧ (¬ (1 : Int32) ≤ (M (27 + 61 * (M 0 5).toNatClampNeg) 4) → K (FP.dconst0) M))
set_option maxRecDepth 100000 in
set_option maxHeartbeats 4000000 in
theorem c_X12_meanCleanPairs {ad : Nat → Nat}  (M : TM) (K : UInt64 → TM → Prop) (h : f_X12_meanCleanPairs  M K) : MD yX12_meanCleanPairs cX12_meanCleanPairs 1 1 ad [.ref (ad 0)] M K := by
  refine MD_of RX12 rfl (by decide +kernel) (Nat.le_of_ble_eq_true rfl) (fun p l e s m below meth c D tc E hr => ?_)
  unfold f_X12_meanCleanPairs at h
  refine ra_aload_n E dX12_meanCleanPairs_0 rfl 0 rfl ?_
  obtain ⟨g1, h⟩ := h
  refine gf_X12_5 E fl_X12_41 dX12_meanCleanPairs_1 ?_
  refine gf_X2_4 E (isCanal_of g1) fl_X12_100 dX12_meanCleanPairs_4 ?_
  refine ra_iconst E dX12_meanCleanPairs_7 ki_1 ?_
  refine ra_icmp_ge (tgt := 13) E dX12_meanCleanPairs_8 (by decide) (fun q2 => ?_) (fun q2 => ?_)
  · replace h := h.1 q2
    refine ra_aload_n E dX12_meanCleanPairs_13 rfl 0 rfl ?_
    obtain ⟨g3, h⟩ := h
    refine gf_X12_5 E fl_X12_41 dX12_meanCleanPairs_14 ?_
    refine ra_callIV (rest := []) E (c_X2_sumOfCleanPairs _ (isCanal_of g3) _ _ h) (lq_X2 _) cv_X2_sumOfCleanPairs ml_X12_239 (by decide) (lm ((isCanal_of g3).add (j := 0) (by decide))) (fun R => ⟨_, cel_canal tc ad (isCanal_of g3) R⟩) rfl rfl rfl (Nat.le_of_ble_eq_true rfl) ⟨Nat.le_of_ble_eq_true rfl, Nat.le_of_ble_eq_true rfl⟩ ⟨Nat.zero_le _, Nat.zero_le _⟩ dX12_meanCleanPairs_17 (fun r5 M4 h => ?_)
    refine ra_i2d E dX12_meanCleanPairs_20 ?_
    refine ra_aload_n E dX12_meanCleanPairs_21 rfl 0 rfl ?_
    obtain ⟨g6, h⟩ := h
    refine gf_X12_5 E fl_X12_41 dX12_meanCleanPairs_22 ?_
    refine gf_X2_4 E (isCanal_of g6) fl_X12_100 dX12_meanCleanPairs_25 ?_
    refine ra_i2d E dX12_meanCleanPairs_28 ?_
    obtain ⟨g7, h⟩ := h
    refine ra_ddiv E dX12_meanCleanPairs_29 g7 ?_
    exact ra_dret E hr dX12_meanCleanPairs_30 h
  · replace h := h.2 q2
    refine ra_dconst0 E dX12_meanCleanPairs_11 ?_
    exact ra_dret E hr dX12_meanCleanPairs_12 h
def f_X12_eatenShare  (M : TM) (K : UInt32 → TM → Prop) : Prop := vp_in (M 0 5) 11 ∧ vp_in (M 0 5) 11 ∧ (((1 : Int32) ≤ ((M (27 + 61 * (M 0 5).toNatClampNeg) 12) + (M (27 + 61 * (M 0 5).toNatClampNeg) 13)) → vp_in (M 0 5) 11 ∧ vf_n32 (FP.fdiv (FP.i2f (M (27 + 61 * (M 0 5).toNatClampNeg) 12)) (FP.i2f ((M (27 + 61 * (M 0 5).toNatClampNeg) 12) + (M (27 + 61 * (M 0 5).toNatClampNeg) 13)))) ∧ K (FP.fdiv (FP.i2f (M (27 + 61 * (M 0 5).toNatClampNeg) 12)) (FP.i2f ((M (27 + 61 * (M 0 5).toNatClampNeg) 12) + (M (27 + 61 * (M 0 5).toNatClampNeg) 13)))) M) ∧ (¬ (1 : Int32) ≤ ((M (27 + 61 * (M 0 5).toNatClampNeg) 12) + (M (27 + 61 * (M 0 5).toNatClampNeg) 13)) → K (FP.fconst0) M))
set_option maxRecDepth 100000 in
set_option maxHeartbeats 4000000 in
theorem c_X12_eatenShare {ad : Nat → Nat}  (M : TM) (K : UInt32 → TM → Prop) (h : f_X12_eatenShare  M K) : MF yX12_eatenShare cX12_eatenShare 2 0 ad [.ref (ad 0)] M K := by
  refine MF_of RX12 rfl (by decide +kernel) (Nat.le_of_ble_eq_true rfl) (fun p l e s m below meth c D tc E hr => ?_)
  unfold f_X12_eatenShare at h
  refine ra_aload_n E dX12_eatenShare_0 rfl 0 rfl ?_
  obtain ⟨g1, h⟩ := h
  refine gf_X12_5 E fl_X12_41 dX12_eatenShare_1 ?_
  refine gf_X2_12 E (isCanal_of g1) fl_X12_242 dX12_eatenShare_4 ?_
  refine ra_aload_n E dX12_eatenShare_7 rfl 0 rfl ?_
  obtain ⟨g2, h⟩ := h
  refine gf_X12_5 E fl_X12_41 dX12_eatenShare_8 ?_
  refine gf_X2_13 E (isCanal_of g2) fl_X12_236 dX12_eatenShare_11 ?_
  refine ra_iadd E dX12_eatenShare_14 ?_
  refine ra_istore_n (L' := [(1, _), (0, _)]) E dX12_eatenShare_15 rfl (by decide) rfl ?_
  refine ra_iload_n E dX12_eatenShare_16 rfl 0 rfl ?_
  refine ra_iconst E dX12_eatenShare_17 ki_1 ?_
  refine ra_icmp_ge (tgt := 23) E dX12_eatenShare_18 (by decide) (fun q3 => ?_) (fun q3 => ?_)
  · replace h := h.1 q3
    refine ra_aload_n E dX12_eatenShare_23 rfl 1 rfl ?_
    obtain ⟨g4, h⟩ := h
    refine gf_X12_5 E fl_X12_41 dX12_eatenShare_24 ?_
    refine gf_X2_12 E (isCanal_of g4) fl_X12_242 dX12_eatenShare_27 ?_
    refine ra_i2f E dX12_eatenShare_30 ?_
    refine ra_iload_n E dX12_eatenShare_31 rfl 0 rfl ?_
    refine ra_i2f E dX12_eatenShare_32 ?_
    obtain ⟨g5, h⟩ := h
    refine ra_fdiv E dX12_eatenShare_33 g5 ?_
    exact ra_fret E hr dX12_eatenShare_34 h
  · replace h := h.2 q3
    refine ra_fconst0 E dX12_eatenShare_21 ?_
    exact ra_fret E hr dX12_eatenShare_22 h
def f_X12_gap  (M : TM) (K : Int32 → TM → Prop) : Prop := vp_in (M 0 5) 11 ∧ f_X2_pairsGap (27 + 61 * (M 0 5).toNatClampNeg) M (fun r3 M2 => vp_in (M2 0 5) 11 ∧ f_X2_bowlsGap (27 + 61 * (M2 0 5).toNatClampNeg) M2 (fun r6 M5 => K (r3 + r6) M5))
set_option maxRecDepth 100000 in
set_option maxHeartbeats 4000000 in
theorem c_X12_gap {ad : Nat → Nat}  (M : TM) (K : Int32 → TM → Prop) (h : f_X12_gap  M K) : MI yX12_gap cX12_gap 1 (some .int) 2 ad [.ref (ad 0)] M K := by
  refine MI_of RX12 rfl (by decide +kernel) (Nat.le_of_ble_eq_true rfl) (fun p l e s m below meth c D tc E hr => ?_)
  unfold f_X12_gap at h
  refine ra_aload_n E dX12_gap_0 rfl 0 rfl ?_
  obtain ⟨g1, h⟩ := h
  refine gf_X12_5 E fl_X12_41 dX12_gap_1 ?_
  refine ra_callIV (rest := []) E (c_X2_pairsGap _ (isCanal_of g1) _ _ h) (lq_X2 _) cv_X2_pairsGap ml_X12_245 (by decide) (lm ((isCanal_of g1).add (j := 0) (by decide))) (fun R => ⟨_, cel_canal tc ad (isCanal_of g1) R⟩) rfl rfl rfl (Nat.le_of_ble_eq_true rfl) ⟨Nat.le_of_ble_eq_true rfl, Nat.le_of_ble_eq_true rfl⟩ ⟨Nat.zero_le _, Nat.zero_le _⟩ dX12_gap_4 (fun r3 M2 h => ?_)
  refine ra_aload_n E dX12_gap_7 rfl 0 rfl ?_
  obtain ⟨g4, h⟩ := h
  refine gf_X12_5 E fl_X12_41 dX12_gap_8 ?_
  refine ra_callIV (rest := [_]) E (c_X2_bowlsGap _ (isCanal_of g4) _ _ h) (lq_X2 _) cv_X2_bowlsGap ml_X12_248 (by decide) (lm ((isCanal_of g4).add (j := 0) (by decide))) (fun R => ⟨_, cel_canal tc ad (isCanal_of g4) R⟩) rfl rfl rfl (Nat.le_of_ble_eq_true rfl) ⟨Nat.le_of_ble_eq_true rfl, Nat.le_of_ble_eq_true rfl⟩ ⟨Nat.zero_le _, Nat.zero_le _⟩ dX12_gap_11 (fun r6 M5 h => ?_)
  refine ra_iadd E dX12_gap_14 ?_
  exact ra_iret E hr dX12_gap_15 h
def f_X12_outputByte (p1 : Int32) (M : TM) (K : Int32 → TM → Prop) (X : String → TM → Prop) : Prop := ((p1 < 0 → X "java/lang/IndexOutOfBoundsException" M) ∧ (¬ p1 < 0 → ((p1 < (M 0 8) → vp_in p1 31 ∧ K (M 698 p1.toNatClampNeg) M) ∧ (¬ p1 < (M 0 8) → X "java/lang/IndexOutOfBoundsException" M))))
set_option maxRecDepth 100000 in
set_option maxHeartbeats 4000000 in
theorem c_X12_outputByte {ad : Nat → Nat} (p1 : Int32) (M : TM) (K : Int32 → TM → Prop) (X : String → TM → Prop) (h : f_X12_outputByte p1 M K X) : XI yX12_outputByte cX12_outputByte 2 (some .int) 6 1 ad [.ref (ad 0), .int p1] M K X := by
  refine XI_of RX12 rfl (by decide +kernel) (Nat.le_of_ble_eq_true rfl) (fun p l e s m below meth c D tc E hr hfl hT => ?_)
  unfold f_X12_outputByte at h
  refine ra_iload_n E dX12_outputByte_0 rfl 1 rfl ?_
  refine ra_if_lt (tgt := 12) E dX12_outputByte_1 (by decide) (fun q1 => ?_) (fun q1 => ?_)
  · replace h := h.1 q1
    exact ra_throw E hfl hT sr_X12_355 tw_B tv_B tg_B (by decide +kernel) (by decide +kernel) tk_B ti_B dX12_outputByte_12 dX12_outputByte_15 dX12_outputByte_16 dX12_outputByte_19 dX12_outputByte_22 ⟨Nat.le_of_ble_eq_true rfl, Nat.le_of_ble_eq_true rfl⟩ ⟨Nat.le_of_ble_eq_true rfl, Nat.le_of_ble_eq_true rfl⟩ ⟨Nat.le_of_ble_eq_true rfl, Nat.le_of_ble_eq_true rfl⟩ h
  · replace h := h.2 q1
    refine ra_iload_n E dX12_outputByte_4 rfl 1 rfl ?_
    refine ra_aload_n E dX12_outputByte_5 rfl 0 rfl ?_
    refine gf_X12_8 E fl_X12_51 dX12_outputByte_6 ?_
    refine ra_icmp_lt (tgt := 23) E dX12_outputByte_9 (by decide) (fun q2 => ?_) (fun q2 => ?_)
    · replace h := h.1 q2
      refine ra_aload_n E dX12_outputByte_23 rfl 0 rfl ?_
      refine gf_X12_7 E fl_X12_47 dX12_outputByte_24 ?_
      refine ra_iload_n E dX12_outputByte_27 rfl 1 rfl ?_
      obtain ⟨g3, h⟩ := h
      refine ra_bald E (lm (by decide)) (cel_698 tc ad) g3 dX12_outputByte_28 ?_
      exact rx_iret E hr dX12_outputByte_29 ⟨Nat.le_of_ble_eq_true rfl, Nat.le_of_ble_eq_true rfl⟩ h
    · replace h := h.2 q2
      exact ra_throw E hfl hT sr_X12_355 tw_B tv_B tg_B (by decide +kernel) (by decide +kernel) tk_B ti_B dX12_outputByte_12 dX12_outputByte_15 dX12_outputByte_16 dX12_outputByte_19 dX12_outputByte_22 ⟨Nat.le_of_ble_eq_true rfl, Nat.le_of_ble_eq_true rfl⟩ ⟨Nat.le_of_ble_eq_true rfl, Nat.le_of_ble_eq_true rfl⟩ ⟨Nat.le_of_ble_eq_true rfl, Nat.le_of_ble_eq_true rfl⟩ h
def f_X12_undoableCount  (M : TM) (K : Int32 → TM → Prop) : Prop := K (M 25 2) M
set_option maxRecDepth 100000 in
set_option maxHeartbeats 4000000 in
theorem c_X12_undoableCount {ad : Nat → Nat}  (M : TM) (K : Int32 → TM → Prop) (h : f_X12_undoableCount  M K) : MI yX12_undoableCount cX12_undoableCount 1 (some .int) 0 ad [.ref (ad 0)] M K := by
  refine MI_of RX12 rfl (by decide +kernel) (Nat.le_of_ble_eq_true rfl) (fun p l e s m below meth c D tc E hr => ?_)
  unfold f_X12_undoableCount at h
  refine ra_aload_n E dX12_undoableCount_0 rfl 0 rfl ?_
  refine gf_X12_2 E fl_X12_26 dX12_undoableCount_1 ?_
  refine gf_X5_2 E fl_X12_359 dX12_undoableCount_4 ?_
  exact ra_iret E hr dX12_undoableCount_7 h
def f_X12_writeSign (p1 : Int32) (M : TM) (K : TM → Prop) : Prop := (((31 : Int32) ≤ (M 0 8) → K M) ∧ (¬ (31 : Int32) ≤ (M 0 8) → vp_in (M 0 8) 31 ∧ ∀ M3, M3 = u2 M 698 (M 0 8).toNatClampNeg (vp_nar .byte (p1.toInt8.toInt32)) → ∀ M4, M4 = u2 M3 0 8 ((M3 0 8) + (1 : Int32)) → K M4))
set_option maxRecDepth 100000 in
set_option maxHeartbeats 4000000 in
theorem c_X12_writeSign {ad : Nat → Nat} (p1 : Int32) (M : TM) (K : TM → Prop) (h : f_X12_writeSign p1 M K) : MV yX12_writeSign cX12_writeSign 2 0 ad [.ref (ad 0), .int p1] M K := by
  refine MV_of RX12 rfl (by decide +kernel) (Nat.le_of_ble_eq_true rfl) (fun p l e s m below meth c D tc E hr => ?_)
  unfold f_X12_writeSign at h
  refine ra_aload_n E dX12_writeSign_0 rfl 0 rfl ?_
  refine gf_X12_8 E fl_X12_51 dX12_writeSign_1 ?_
  refine ra_aload_n E dX12_writeSign_4 rfl 0 rfl ?_
  refine gf_X12_7 E fl_X12_47 dX12_writeSign_5 ?_
  refine ra_alen (n := 31) (v := 31) E (lm (by decide)) (fun R => ⟨_, (cel_698 tc ad) R, rfl⟩) rfl (by decide) dX12_writeSign_8 ?_
  refine ra_icmp_ge (tgt := 33) E dX12_writeSign_9 (by decide) (fun q1 => ?_) (fun q1 => ?_)
  · replace h := h.1 q1
    exact ra_vret E hr dX12_writeSign_33 h
  · replace h := h.2 q1
    refine ra_aload_n E dX12_writeSign_12 rfl 0 rfl ?_
    refine gf_X12_7 E fl_X12_47 dX12_writeSign_13 ?_
    refine ra_aload_n E dX12_writeSign_16 rfl 0 rfl ?_
    refine gf_X12_8 E fl_X12_51 dX12_writeSign_17 ?_
    refine ra_iload_n E dX12_writeSign_20 rfl 1 rfl ?_
    refine ra_i2b E dX12_writeSign_21 rfl ?_
    obtain ⟨g2, h⟩ := h
    refine ra_bast E (lm (by decide)) (cel_698 tc ad) g2 dX12_writeSign_22 ?_
    replace h := h _ rfl
    refine ra_aload_n E dX12_writeSign_23 rfl 0 rfl ?_
    refine ra_dup E dX12_writeSign_24 rfl ?_
    refine gf_X12_8 E fl_X12_51 dX12_writeSign_25 ?_
    refine ra_iconst E dX12_writeSign_28 ki_1 ?_
    refine ra_iadd E dX12_writeSign_29 ?_
    refine pf_X12_8 E fl_X12_51 dX12_writeSign_30 ?_
    replace h := h _ rfl
    exact ra_vret E hr dX12_writeSign_33 h
def f_X12_sectionAt (p1 : Int32) (M : TM) (K : Option Nat → TM → Prop) (X : String → TM → Prop) : Prop := vp_in (M 0 5) 11 ∧ f_X2_hasSection (27 + 61 * (M 0 5).toNatClampNeg) p1 M (fun r3 M2 => ((¬ r3 = 0 → vp_in (M2 0 5) 11 ∧ vp_in p1 15 ∧ K (some ((27 + 61 * (M2 0 5).toNatClampNeg) + 6 + p1.toNatClampNeg)) M2) ∧ (r3 = 0 → X "java/lang/IndexOutOfBoundsException" M2)))
set_option maxRecDepth 100000 in
set_option maxHeartbeats 4000000 in
theorem c_X12_sectionAt {ad : Nat → Nat} (p1 : Int32) (M : TM) (K : Option Nat → TM → Prop) (X : String → TM → Prop) (h : f_X12_sectionAt p1 M K X) : XA yX12_sectionAt cX12_sectionAt 2 (some (.object "NoodleCanal$Section")) 6 1 ad [.ref (ad 0), .int p1] M K X := by
  refine XA_of RX12 rfl (by decide +kernel) (Nat.le_of_ble_eq_true rfl) (fun p l e s m below meth c D tc E hr hfl hT => ?_)
  unfold f_X12_sectionAt at h
  refine ra_aload_n E dX12_sectionAt_0 rfl 0 rfl ?_
  obtain ⟨g1, h⟩ := h
  refine gf_X12_5 E fl_X12_41 dX12_sectionAt_1 ?_
  refine ra_iload_n E dX12_sectionAt_4 rfl 1 rfl ?_
  refine ra_callIV (rest := []) E (c_X2_hasSection _ (isCanal_of g1) _ _ _ h) (lq_X2 _) cv_X2_hasSection ml_X12_365 (by decide) (lm ((isCanal_of g1).add (j := 0) (by decide))) (fun R => ⟨_, cel_canal tc ad (isCanal_of g1) R⟩) rfl rfl rfl (Nat.le_of_ble_eq_true rfl) ⟨Nat.le_of_ble_eq_true rfl, Nat.le_of_ble_eq_true rfl⟩ ⟨Nat.le_of_ble_eq_true rfl, Nat.le_of_ble_eq_true rfl⟩ dX12_sectionAt_5 (fun r3 M2 h => ?_)
  obtain ⟨b4, h⟩ := h
  refine ra_if_ne (tgt := 22) E dX12_sectionAt_8 (by decide) (fun q5 => ?_) (fun q5 => ?_)
  · replace h := h.1 q5
    refine ra_aload_n E dX12_sectionAt_22 rfl 0 rfl ?_
    obtain ⟨g6, h⟩ := h
    refine gf_X12_5 E fl_X12_41 dX12_sectionAt_23 ?_
    refine gf_X2_1 E (isCanal_of g6) fl_X12_370 dX12_sectionAt_26 ?_
    refine ra_iload_n E dX12_sectionAt_29 rfl 1 rfl ?_
    obtain ⟨g7, h⟩ := h
    refine ra_aald E (lm ((isCanal_of g6).add (by decide))) (cel_secs tc ad (isCanal_of g6)) rfl g7 dX12_sectionAt_30 ?_
    exact rx_aret (o := (some ((27 + 61 * (M2 0 5).toNatClampNeg) + 6 + p1.toNatClampNeg))) E hr dX12_sectionAt_31 ⟨Nat.le_of_ble_eq_true rfl, Nat.le_of_ble_eq_true rfl⟩ h
  · replace h := h.2 q5
    exact ra_throw E hfl hT sr_X12_368 tw_B tv_B tg_B (by decide +kernel) (by decide +kernel) tk_B ti_B dX12_sectionAt_11 dX12_sectionAt_14 dX12_sectionAt_15 dX12_sectionAt_18 dX12_sectionAt_21 ⟨Nat.le_of_ble_eq_true rfl, Nat.le_of_ble_eq_true rfl⟩ ⟨Nat.le_of_ble_eq_true rfl, Nat.le_of_ble_eq_true rfl⟩ ⟨Nat.le_of_ble_eq_true rfl, Nat.le_of_ble_eq_true rfl⟩ h
def f_X12_requirePlace (p1 : Int32) (M : TM) (K : TM → Prop) (X : String → TM → Prop) : Prop := vp_in (M 0 5) 11 ∧ f_X2_hasPlace (27 + 61 * (M 0 5).toNatClampNeg) p1 M (fun r3 M2 => ((¬ r3 = 0 → K M2) ∧ (r3 = 0 → X "java/lang/IndexOutOfBoundsException" M2)))
set_option maxRecDepth 100000 in
set_option maxHeartbeats 4000000 in
theorem c_X12_requirePlace {ad : Nat → Nat} (p1 : Int32) (M : TM) (K : TM → Prop) (X : String → TM → Prop) (h : f_X12_requirePlace p1 M K X) : XV yX12_requirePlace cX12_requirePlace 2 6 1 ad [.ref (ad 0), .int p1] M K X := by
  refine XV_of RX12 rfl (by decide +kernel) (Nat.le_of_ble_eq_true rfl) (fun p l e s m below meth c D tc E hr hfl hT => ?_)
  unfold f_X12_requirePlace at h
  refine ra_aload_n E dX12_requirePlace_0 rfl 0 rfl ?_
  obtain ⟨g1, h⟩ := h
  refine gf_X12_5 E fl_X12_41 dX12_requirePlace_1 ?_
  refine ra_iload_n E dX12_requirePlace_4 rfl 1 rfl ?_
  refine ra_callIV (rest := []) E (c_X2_hasPlace _ (isCanal_of g1) _ _ _ h) (lq_X2 _) cv_X2_hasPlace ml_X12_382 (by decide) (lm ((isCanal_of g1).add (j := 0) (by decide))) (fun R => ⟨_, cel_canal tc ad (isCanal_of g1) R⟩) rfl rfl rfl (Nat.le_of_ble_eq_true rfl) ⟨Nat.le_of_ble_eq_true rfl, Nat.le_of_ble_eq_true rfl⟩ ⟨Nat.le_of_ble_eq_true rfl, Nat.le_of_ble_eq_true rfl⟩ dX12_requirePlace_5 (fun r3 M2 h => ?_)
  obtain ⟨b4, h⟩ := h
  refine ra_if_ne (tgt := 22) E dX12_requirePlace_8 (by decide) (fun q5 => ?_) (fun q5 => ?_)
  · replace h := h.1 q5
    exact rx_vret E hr dX12_requirePlace_22 ⟨Nat.le_of_ble_eq_true rfl, Nat.le_of_ble_eq_true rfl⟩ h
  · replace h := h.2 q5
    exact ra_throw E hfl hT sr_X12_385 tw_B tv_B tg_B (by decide +kernel) (by decide +kernel) tk_B ti_B dX12_requirePlace_11 dX12_requirePlace_14 dX12_requirePlace_15 dX12_requirePlace_18 dX12_requirePlace_21 ⟨Nat.le_of_ble_eq_true rfl, Nat.le_of_ble_eq_true rfl⟩ ⟨Nat.le_of_ble_eq_true rfl, Nat.le_of_ble_eq_true rfl⟩ ⟨Nat.le_of_ble_eq_true rfl, Nat.le_of_ble_eq_true rfl⟩ h
def f_X12_requireBarge (p1 : Int32) (M : TM) (K : TM → Prop) (X : String → TM → Prop) : Prop := vp_in (M 0 5) 11 ∧ f_X2_hasBarge (27 + 61 * (M 0 5).toNatClampNeg) p1 M (fun r3 M2 => ((¬ r3 = 0 → K M2) ∧ (r3 = 0 → X "java/lang/IndexOutOfBoundsException" M2)))
set_option maxRecDepth 100000 in
set_option maxHeartbeats 4000000 in
theorem c_X12_requireBarge {ad : Nat → Nat} (p1 : Int32) (M : TM) (K : TM → Prop) (X : String → TM → Prop) (h : f_X12_requireBarge p1 M K X) : XV yX12_requireBarge cX12_requireBarge 2 6 1 ad [.ref (ad 0), .int p1] M K X := by
  refine XV_of RX12 rfl (by decide +kernel) (Nat.le_of_ble_eq_true rfl) (fun p l e s m below meth c D tc E hr hfl hT => ?_)
  unfold f_X12_requireBarge at h
  refine ra_aload_n E dX12_requireBarge_0 rfl 0 rfl ?_
  obtain ⟨g1, h⟩ := h
  refine gf_X12_5 E fl_X12_41 dX12_requireBarge_1 ?_
  refine ra_iload_n E dX12_requireBarge_4 rfl 1 rfl ?_
  refine ra_callIV (rest := []) E (c_X2_hasBarge _ (isCanal_of g1) _ _ _ h) (lq_X2 _) cv_X2_hasBarge ml_X12_387 (by decide) (lm ((isCanal_of g1).add (j := 0) (by decide))) (fun R => ⟨_, cel_canal tc ad (isCanal_of g1) R⟩) rfl rfl rfl (Nat.le_of_ble_eq_true rfl) ⟨Nat.le_of_ble_eq_true rfl, Nat.le_of_ble_eq_true rfl⟩ ⟨Nat.le_of_ble_eq_true rfl, Nat.le_of_ble_eq_true rfl⟩ dX12_requireBarge_5 (fun r3 M2 h => ?_)
  obtain ⟨b4, h⟩ := h
  refine ra_if_ne (tgt := 22) E dX12_requireBarge_8 (by decide) (fun q5 => ?_) (fun q5 => ?_)
  · replace h := h.1 q5
    exact rx_vret E hr dX12_requireBarge_22 ⟨Nat.le_of_ble_eq_true rfl, Nat.le_of_ble_eq_true rfl⟩ h
  · replace h := h.2 q5
    exact ra_throw E hfl hT sr_X12_390 tw_B tv_B tg_B (by decide +kernel) (by decide +kernel) tk_B ti_B dX12_requireBarge_11 dX12_requireBarge_14 dX12_requireBarge_15 dX12_requireBarge_18 dX12_requireBarge_21 ⟨Nat.le_of_ble_eq_true rfl, Nat.le_of_ble_eq_true rfl⟩ ⟨Nat.le_of_ble_eq_true rfl, Nat.le_of_ble_eq_true rfl⟩ ⟨Nat.le_of_ble_eq_true rfl, Nat.le_of_ble_eq_true rfl⟩ h
def f_X12_requireOrder (p1 : Int32) (M : TM) (K : TM → Prop) (X : String → TM → Prop) : Prop := vp_in (M 0 5) 11 ∧ f_X2_hasOrder (27 + 61 * (M 0 5).toNatClampNeg) p1 M (fun r3 M2 => ((¬ r3 = 0 → K M2) ∧ (r3 = 0 → X "java/lang/IndexOutOfBoundsException" M2)))
set_option maxRecDepth 100000 in
set_option maxHeartbeats 4000000 in
theorem c_X12_requireOrder {ad : Nat → Nat} (p1 : Int32) (M : TM) (K : TM → Prop) (X : String → TM → Prop) (h : f_X12_requireOrder p1 M K X) : XV yX12_requireOrder cX12_requireOrder 2 6 1 ad [.ref (ad 0), .int p1] M K X := by
  refine XV_of RX12 rfl (by decide +kernel) (Nat.le_of_ble_eq_true rfl) (fun p l e s m below meth c D tc E hr hfl hT => ?_)
  unfold f_X12_requireOrder at h
  refine ra_aload_n E dX12_requireOrder_0 rfl 0 rfl ?_
  obtain ⟨g1, h⟩ := h
  refine gf_X12_5 E fl_X12_41 dX12_requireOrder_1 ?_
  refine ra_iload_n E dX12_requireOrder_4 rfl 1 rfl ?_
  refine ra_callIV (rest := []) E (c_X2_hasOrder _ (isCanal_of g1) _ _ _ h) (lq_X2 _) cv_X2_hasOrder ml_X12_392 (by decide) (lm ((isCanal_of g1).add (j := 0) (by decide))) (fun R => ⟨_, cel_canal tc ad (isCanal_of g1) R⟩) rfl rfl rfl (Nat.le_of_ble_eq_true rfl) ⟨Nat.le_of_ble_eq_true rfl, Nat.le_of_ble_eq_true rfl⟩ ⟨Nat.le_of_ble_eq_true rfl, Nat.le_of_ble_eq_true rfl⟩ dX12_requireOrder_5 (fun r3 M2 h => ?_)
  obtain ⟨b4, h⟩ := h
  refine ra_if_ne (tgt := 22) E dX12_requireOrder_8 (by decide) (fun q5 => ?_) (fun q5 => ?_)
  · replace h := h.1 q5
    exact rx_vret E hr dX12_requireOrder_22 ⟨Nat.le_of_ble_eq_true rfl, Nat.le_of_ble_eq_true rfl⟩ h
  · replace h := h.2 q5
    exact ra_throw E hfl hT sr_X12_395 tw_B tv_B tg_B (by decide +kernel) (by decide +kernel) tk_B ti_B dX12_requireOrder_11 dX12_requireOrder_14 dX12_requireOrder_15 dX12_requireOrder_18 dX12_requireOrder_21 ⟨Nat.le_of_ble_eq_true rfl, Nat.le_of_ble_eq_true rfl⟩ ⟨Nat.le_of_ble_eq_true rfl, Nat.le_of_ble_eq_true rfl⟩ ⟨Nat.le_of_ble_eq_true rfl, Nat.le_of_ble_eq_true rfl⟩ h
def f_X12_requireText (p1 : Int32) (M : TM) (K : TM → Prop) (X : String → TM → Prop) : Prop := ((p1 < 0 → X "java/lang/IllegalArgumentException" M) ∧ (¬ p1 < 0 → ((p1 ≤ (M 1 1) → K M) ∧ (¬ p1 ≤ (M 1 1) → X "java/lang/IllegalArgumentException" M))))
set_option maxRecDepth 100000 in
set_option maxHeartbeats 4000000 in
theorem c_X12_requireText {ad : Nat → Nat} (p1 : Int32) (M : TM) (K : TM → Prop) (X : String → TM → Prop) (h : f_X12_requireText p1 M K X) : XV yX12_requireText cX12_requireText 2 6 1 ad [.ref (ad 0), .int p1] M K X := by
  refine XV_of RX12 rfl (by decide +kernel) (Nat.le_of_ble_eq_true rfl) (fun p l e s m below meth c D tc E hr hfl hT => ?_)
  unfold f_X12_requireText at h
  refine ra_iload_n E dX12_requireText_0 rfl 1 rfl ?_
  refine ra_if_lt (tgt := 15) E dX12_requireText_1 (by decide) (fun q1 => ?_) (fun q1 => ?_)
  · replace h := h.1 q1
    exact ra_throw E hfl hT sr_X12_399 tw_A tv_A tg_A (by decide +kernel) (by decide +kernel) tk_A ti_A dX12_requireText_15 dX12_requireText_18 dX12_requireText_19 dX12_requireText_22 dX12_requireText_25 ⟨Nat.le_of_ble_eq_true rfl, Nat.le_of_ble_eq_true rfl⟩ ⟨Nat.le_of_ble_eq_true rfl, Nat.le_of_ble_eq_true rfl⟩ ⟨Nat.le_of_ble_eq_true rfl, Nat.le_of_ble_eq_true rfl⟩ h
  · replace h := h.2 q1
    refine ra_iload_n E dX12_requireText_4 rfl 1 rfl ?_
    refine ra_aload_n E dX12_requireText_5 rfl 0 rfl ?_
    refine gf_X12_0 E fl_X12_10 dX12_requireText_6 ?_
    refine gf_X10_1 E fl_X12_87 dX12_requireText_9 ?_
    refine ra_icmp_le (tgt := 26) E dX12_requireText_12 (by decide) (fun q2 => ?_) (fun q2 => ?_)
    · replace h := h.1 q2
      exact rx_vret E hr dX12_requireText_26 ⟨Nat.le_of_ble_eq_true rfl, Nat.le_of_ble_eq_true rfl⟩ h
    · replace h := h.2 q2
      exact ra_throw E hfl hT sr_X12_399 tw_A tv_A tg_A (by decide +kernel) (by decide +kernel) tk_A ti_A dX12_requireText_15 dX12_requireText_18 dX12_requireText_19 dX12_requireText_22 dX12_requireText_25 ⟨Nat.le_of_ble_eq_true rfl, Nat.le_of_ble_eq_true rfl⟩ ⟨Nat.le_of_ble_eq_true rfl, Nat.le_of_ble_eq_true rfl⟩ ⟨Nat.le_of_ble_eq_true rfl, Nat.le_of_ble_eq_true rfl⟩ h
def f_X12_requireRange (p0 : Int32) (p1 : Int32) (p2 : Int32) (M : TM) (K : TM → Prop) (X : String → TM → Prop) : Prop := ((p0 < p1 → X "java/lang/IllegalArgumentException" M) ∧ (¬ p0 < p1 → ((p0 ≤ p2 → K M) ∧ (¬ p0 ≤ p2 → X "java/lang/IllegalArgumentException" M))))
set_option maxRecDepth 100000 in
set_option maxHeartbeats 4000000 in
theorem c_X12_requireRange {ad : Nat → Nat} (p0 : Int32) (p1 : Int32) (p2 : Int32) (M : TM) (K : TM → Prop) (X : String → TM → Prop) (h : f_X12_requireRange p0 p1 p2 M K X) : XV yX12_requireRange cX12_requireRange 3 6 1 ad [.int p0, .int p1, .int p2] M K X := by
  refine XV_of RX12 rfl (by decide +kernel) (Nat.le_of_ble_eq_true rfl) (fun p l e s m below meth c D tc E hr hfl hT => ?_)
  unfold f_X12_requireRange at h
  refine ra_iload_n E dX12_requireRange_0 rfl 0 rfl ?_
  refine ra_iload_n E dX12_requireRange_1 rfl 1 rfl ?_
  refine ra_icmp_lt (tgt := 10) E dX12_requireRange_2 (by decide) (fun q1 => ?_) (fun q1 => ?_)
  · replace h := h.1 q1
    exact ra_throw E hfl hT sr_X12_402 tw_A tv_A tg_A (by decide +kernel) (by decide +kernel) tk_A ti_A dX12_requireRange_10 dX12_requireRange_13 dX12_requireRange_14 dX12_requireRange_17 dX12_requireRange_20 ⟨Nat.le_of_ble_eq_true rfl, Nat.le_of_ble_eq_true rfl⟩ ⟨Nat.le_of_ble_eq_true rfl, Nat.le_of_ble_eq_true rfl⟩ ⟨Nat.le_of_ble_eq_true rfl, Nat.le_of_ble_eq_true rfl⟩ h
  · replace h := h.2 q1
    refine ra_iload_n E dX12_requireRange_5 rfl 0 rfl ?_
    refine ra_iload_n E dX12_requireRange_6 rfl 2 rfl ?_
    refine ra_icmp_le (tgt := 21) E dX12_requireRange_7 (by decide) (fun q2 => ?_) (fun q2 => ?_)
    · replace h := h.1 q2
      exact rx_vret E hr dX12_requireRange_21 ⟨Nat.le_of_ble_eq_true rfl, Nat.le_of_ble_eq_true rfl⟩ h
    · replace h := h.2 q2
      exact ra_throw E hfl hT sr_X12_402 tw_A tv_A tg_A (by decide +kernel) (by decide +kernel) tk_A ti_A dX12_requireRange_10 dX12_requireRange_13 dX12_requireRange_14 dX12_requireRange_17 dX12_requireRange_20 ⟨Nat.le_of_ble_eq_true rfl, Nat.le_of_ble_eq_true rfl⟩ ⟨Nat.le_of_ble_eq_true rfl, Nat.le_of_ble_eq_true rfl⟩ ⟨Nat.le_of_ble_eq_true rfl, Nat.le_of_ble_eq_true rfl⟩ h
def f_X12_requireState (p0 : Int32) (M : TM) (K : TM → Prop) (X : String → TM → Prop) : Prop := ((¬ p0 = 0 → K M) ∧ (p0 = 0 → X "java/lang/IllegalStateException" M))
set_option maxRecDepth 100000 in
set_option maxHeartbeats 4000000 in
theorem c_X12_requireState {ad : Nat → Nat} (p0 : Int32) (M : TM) (K : TM → Prop) (X : String → TM → Prop) (h : f_X12_requireState p0 M K X) : XV yX12_requireState cX12_requireState 1 6 1 ad [.int p0] M K X := by
  refine XV_of RX12 rfl (by decide +kernel) (Nat.le_of_ble_eq_true rfl) (fun p l e s m below meth c D tc E hr hfl hT => ?_)
  unfold f_X12_requireState at h
  refine ra_iload_n E dX12_requireState_0 rfl 0 rfl ?_
  refine ra_if_ne (tgt := 15) E dX12_requireState_1 (by decide) (fun q1 => ?_) (fun q1 => ?_)
  · replace h := h.1 q1
    exact rx_vret E hr dX12_requireState_15 ⟨Nat.le_of_ble_eq_true rfl, Nat.le_of_ble_eq_true rfl⟩ h
  · replace h := h.2 q1
    exact ra_throw E hfl hT sr_X12_406 tw_S tv_S tg_S (by decide +kernel) (by decide +kernel) tk_S ti_S dX12_requireState_4 dX12_requireState_7 dX12_requireState_8 dX12_requireState_11 dX12_requireState_14 ⟨Nat.le_of_ble_eq_true rfl, Nat.le_of_ble_eq_true rfl⟩ ⟨Nat.le_of_ble_eq_true rfl, Nat.le_of_ble_eq_true rfl⟩ ⟨Nat.le_of_ble_eq_true rfl, Nat.le_of_ble_eq_true rfl⟩ h
def f_J0_coder_7d493 (a0 : Nat) (M : TM) (K : Int32 → TM → Prop) : Prop := K (0 : Int32) M
set_option maxRecDepth 100000 in
set_option maxHeartbeats 4000000 in
theorem c_J0_coder_7d493 {ad : Nat → Nat} (a0 : Nat) (h0 : a0 < nS) (M : TM) (K : Int32 → TM → Prop) (h : f_J0_coder_7d493 a0 M K) : MI yJ0_coder_7d493 cJ0_coder_7d493 1 (some .byte) 0 ad [.ref (ad (2200 + a0))] M K := by
  refine MI_of RJ0 rfl (by decide +kernel) (Nat.le_of_ble_eq_true rfl) (fun p l e s m below meth c D tc E hr => ?_)
  unfold f_J0_coder_7d493 at h
  refine gs_comp E fl_J0_38 dJ0_coder_7d493_0 ?_
  refine ra_if_eq (tgt := 13) E dJ0_coder_7d493_3 (by decide) (fun q => absurd q (by decide)) (fun _ => ?_)
  refine ra_aload_n E dJ0_coder_7d493_6 rfl 0 rfl ?_
  refine gf_scod E h0 fl_J0_15 dJ0_coder_7d493_7 ?_
  refine ra_goto (tgt := 14) E dJ0_coder_7d493_10 (by decide) ?_
  exact ra_zret E hr (by decide) dJ0_coder_7d493_14 h
def f_J0_isLatin1_aae02 (a0 : Nat) (M : TM) (K : Int32 → TM → Prop) : Prop := K (1 : Int32) M
set_option maxRecDepth 100000 in
set_option maxHeartbeats 4000000 in
theorem c_J0_isLatin1_aae02 {ad : Nat → Nat} (a0 : Nat) (h0 : a0 < nS) (M : TM) (K : Int32 → TM → Prop) (h : f_J0_isLatin1_aae02 a0 M K) : MI yJ0_isLatin1_aae02 cJ0_isLatin1_aae02 1 (some .boolean) 0 ad [.ref (ad (2200 + a0))] M (fun r M' => (r = 0 ∨ r = 1) ∧ K r M') := by
  refine MI_of RJ0 rfl (by decide +kernel) (Nat.le_of_ble_eq_true rfl) (fun p l e s m below meth c D tc E hr => ?_)
  unfold f_J0_isLatin1_aae02 at h
  refine gs_comp E fl_J0_38 dJ0_isLatin1_aae02_0 ?_
  refine ra_if_eq (tgt := 17) E dJ0_isLatin1_aae02_3 (by decide) (fun q => absurd q (by decide)) (fun _ => ?_)
  refine ra_aload_n E dJ0_isLatin1_aae02_6 rfl 0 rfl ?_
  refine gf_scod E h0 fl_J0_15 dJ0_isLatin1_aae02_7 ?_
  refine ra_if_ne (tgt := 17) E dJ0_isLatin1_aae02_10 (by decide) (fun q => absurd q (by decide)) (fun _ => ?_)
  refine ra_iconst E dJ0_isLatin1_aae02_13 ki_1 ?_
  refine ra_goto (tgt := 18) E dJ0_isLatin1_aae02_14 (by decide) ?_
  exact ra_zret E hr rfl dJ0_isLatin1_aae02_18 ⟨Or.inr rfl, h⟩
def f_J3_checkIndex_8e157 (p0 : Int32) (p1 : Int32) (a2 : Value) (M : TM) (K : Int32 → TM → Prop) : Prop := ((p0 < 0 → False) ∧ (¬ p0 < 0 → ((p0 < p1 → K p0 M) ∧ (¬ p0 < p1 → False))))
set_option maxRecDepth 100000 in
set_option maxHeartbeats 4000000 in
theorem c_J3_checkIndex_8e157 {ad : Nat → Nat} (p0 : Int32) (p1 : Int32) (a2 : Value) (h2 : a2 = .null ∨ ∃ z, a2 = .ref z) (M : TM) (K : Int32 → TM → Prop) (h : f_J3_checkIndex_8e157 p0 p1 a2 M K) : MI yJ3_checkIndex_8e157 cJ3_checkIndex_8e157 3 (some .int) 0 ad [.int p0, .int p1, a2] M K := by
  rcases h2 with rfl | ⟨z9, rfl⟩
  · refine MI_of RJ3 rfl (by decide +kernel) (Nat.le_of_ble_eq_true rfl) (fun p l e s m below meth c D tc E hr => ?_)
    unfold f_J3_checkIndex_8e157 at h
    refine ra_iload_n E dJ3_checkIndex_8e157_0 rfl 0 rfl ?_
    refine ra_if_lt (tgt := 9) E dJ3_checkIndex_8e157_1 (by decide) (fun q1 => ?_) (fun q1 => ?_)
    · replace h := h.1 q1
      exact h.elim
    · replace h := h.2 q1
      refine ra_iload_n E dJ3_checkIndex_8e157_4 rfl 0 rfl ?_
      refine ra_iload_n E dJ3_checkIndex_8e157_5 rfl 1 rfl ?_
      refine ra_icmp_lt (tgt := 16) E dJ3_checkIndex_8e157_6 (by decide) (fun q2 => ?_) (fun q2 => ?_)
      · replace h := h.1 q2
        refine ra_iload_n E dJ3_checkIndex_8e157_16 rfl 0 rfl ?_
        exact ra_iret E hr dJ3_checkIndex_8e157_17 h
      · replace h := h.2 q2
        exact h.elim
  · refine MI_of RJ3 rfl (by decide +kernel) (Nat.le_of_ble_eq_true rfl) (fun p l e s m below meth c D tc E hr => ?_)
    unfold f_J3_checkIndex_8e157 at h
    refine ra_iload_n E dJ3_checkIndex_8e157_0 rfl 0 rfl ?_
    refine ra_if_lt (tgt := 9) E dJ3_checkIndex_8e157_1 (by decide) (fun q1 => ?_) (fun q1 => ?_)
    · replace h := h.1 q1
      exact h.elim
    · replace h := h.2 q1
      refine ra_iload_n E dJ3_checkIndex_8e157_4 rfl 0 rfl ?_
      refine ra_iload_n E dJ3_checkIndex_8e157_5 rfl 1 rfl ?_
      refine ra_icmp_lt (tgt := 16) E dJ3_checkIndex_8e157_6 (by decide) (fun q2 => ?_) (fun q2 => ?_)
      · replace h := h.1 q2
        refine ra_iload_n E dJ3_checkIndex_8e157_16 rfl 0 rfl ?_
        exact ra_iret E hr dJ3_checkIndex_8e157_17 h
      · replace h := h.2 q2
        exact h.elim

def f_X13_thrown  (M : TM) (K : Int32 → TM → Prop) : Prop := K (M 699 8) M
set_option maxRecDepth 100000 in
set_option maxHeartbeats 4000000 in
theorem c_X13_thrown {ad : Nat → Nat}  (M : TM) (K : Int32 → TM → Prop) (h : f_X13_thrown  M K) : MI yX13_thrown cX13_thrown 1 (some .int) 0 ad [.ref (ad 699)] M K := by
  refine MI_of RX13 rfl (by decide +kernel) (Nat.le_of_ble_eq_true rfl) (fun p l e s m below meth c D tc E hr => ?_)
  unfold f_X13_thrown at h
  refine ra_aload_n E dX13_thrown_0 rfl 0 rfl ?_
  refine gf_X13_8 E lm13 fl_X13_79 dX13_thrown_1 ?_
  exact ra_iret E hr dX13_thrown_4 h
def f_X13_inRange (p0 : Int32) (p1 : Int32) (p2 : Int32) (M : TM) (K : Int32 → TM → Prop) : Prop := ((p0 < p1 → K (0 : Int32) M) ∧ (¬ p0 < p1 → ((p2 < p0 → K (0 : Int32) M) ∧ (¬ p2 < p0 → K (1 : Int32) M))))
set_option maxRecDepth 100000 in
set_option maxHeartbeats 4000000 in
theorem c_X13_inRange {ad : Nat → Nat} (p0 : Int32) (p1 : Int32) (p2 : Int32) (M : TM) (K : Int32 → TM → Prop) (h : f_X13_inRange p0 p1 p2 M K) : MI yX13_inRange cX13_inRange 3 (some .boolean) 0 ad [.int p0, .int p1, .int p2] M (fun r M' => (r = 0 ∨ r = 1) ∧ K r M') := by
  refine MI_of RX13 rfl (by decide +kernel) (Nat.le_of_ble_eq_true rfl) (fun p l e s m below meth c D tc E hr => ?_)
  unfold f_X13_inRange at h
  refine ra_iload_n E dX13_inRange_0 rfl 0 rfl ?_
  refine ra_iload_n E dX13_inRange_1 rfl 1 rfl ?_
  refine ra_icmp_lt (tgt := 14) E dX13_inRange_2 (by decide) (fun q1 => ?_) (fun q1 => ?_)
  · replace h := h.1 q1
    refine ra_iconst E dX13_inRange_14 ki_0 ?_
    exact ra_zret E hr rfl dX13_inRange_15 ⟨Or.inl rfl, h⟩
  · replace h := h.2 q1
    refine ra_iload_n E dX13_inRange_5 rfl 0 rfl ?_
    refine ra_iload_n E dX13_inRange_6 rfl 2 rfl ?_
    refine ra_icmp_gt (tgt := 14) E dX13_inRange_7 (by decide) (fun q2 => ?_) (fun q2 => ?_)
    · replace h := h.1 q2
      refine ra_iconst E dX13_inRange_14 ki_0 ?_
      exact ra_zret E hr rfl dX13_inRange_15 ⟨Or.inl rfl, h⟩
    · replace h := h.2 q2
      refine ra_iconst E dX13_inRange_10 ki_1 ?_
      refine ra_goto (tgt := 15) E dX13_inRange_11 (by decide) ?_
      exact ra_zret E hr rfl dX13_inRange_15 ⟨Or.inr rfl, h⟩
def f_X13_lacks (p1 : Int32) (M : TM) (K : Int32 → TM → Prop) : Prop := ((p1 = 0 → ∀ M2, M2 = u2 M 699 8 (1 : Int32) → ((¬ p1 = 0 → K (0 : Int32) M2) ∧ (p1 = 0 → K (1 : Int32) M2))) ∧ (¬ p1 = 0 → ∀ M4, M4 = u2 M 699 8 (0 : Int32) → ((¬ p1 = 0 → K (0 : Int32) M4) ∧ (p1 = 0 → K (1 : Int32) M4))))
set_option maxRecDepth 100000 in
set_option maxHeartbeats 4000000 in
theorem c_X13_lacks {ad : Nat → Nat} (p1 : Int32) (M : TM) (K : Int32 → TM → Prop) (h : f_X13_lacks p1 M K) : MI yX13_lacks cX13_lacks 2 (some .boolean) 0 ad [.ref (ad 699), .int p1] M (fun r M' => (r = 0 ∨ r = 1) ∧ K r M') := by
  refine MI_of RX13 rfl (by decide +kernel) (Nat.le_of_ble_eq_true rfl) (fun p l e s m below meth c D tc E hr => ?_)
  unfold f_X13_lacks at h
  refine ra_aload_n E dX13_lacks_0 rfl 0 rfl ?_
  refine ra_iload_n E dX13_lacks_1 rfl 1 rfl ?_
  refine ra_if_eq (tgt := 9) E dX13_lacks_2 (by decide) (fun q1 => ?_) (fun q1 => ?_)
  · replace h := h.1 q1
    refine ra_iconst E dX13_lacks_9 ki_1 ?_
    refine pf_X13_8 E lm13 fl_X13_79 dX13_lacks_10 ?_
    replace h := h _ rfl
    refine ra_iload_n E dX13_lacks_13 rfl 1 rfl ?_
    refine ra_if_ne (tgt := 21) E dX13_lacks_14 (by decide) (fun q3 => ?_) (fun q3 => ?_)
    · replace h := h.1 q3
      refine ra_iconst E dX13_lacks_21 ki_0 ?_
      exact ra_zret E hr rfl dX13_lacks_22 ⟨Or.inl rfl, h⟩
    · replace h := h.2 q3
      refine ra_iconst E dX13_lacks_17 ki_1 ?_
      refine ra_goto (tgt := 22) E dX13_lacks_18 (by decide) ?_
      exact ra_zret E hr rfl dX13_lacks_22 ⟨Or.inr rfl, h⟩
  · replace h := h.2 q1
    refine ra_iconst E dX13_lacks_5 ki_0 ?_
    refine ra_goto (tgt := 10) E dX13_lacks_6 (by decide) ?_
    refine pf_X13_8 E lm13 fl_X13_79 dX13_lacks_10 ?_
    replace h := h _ rfl
    refine ra_iload_n E dX13_lacks_13 rfl 1 rfl ?_
    refine ra_if_ne (tgt := 21) E dX13_lacks_14 (by decide) (fun q5 => ?_) (fun q5 => ?_)
    · replace h := h.1 q5
      refine ra_iconst E dX13_lacks_21 ki_0 ?_
      exact ra_zret E hr rfl dX13_lacks_22 ⟨Or.inl rfl, h⟩
    · replace h := h.2 q5
      refine ra_iconst E dX13_lacks_17 ki_1 ?_
      refine ra_goto (tgt := 22) E dX13_lacks_18 (by decide) ?_
      exact ra_zret E hr rfl dX13_lacks_22 ⟨Or.inr rfl, h⟩
def f_X13_lacksBoth (p1 : Int32) (p2 : Int32) (M : TM) (K : Int32 → TM → Prop) : Prop := f_X13_lacks p1 M (fun r2 M1 => ((r2 = 0 → ((p2 = 0 → ∀ M6, M6 = u2 M1 699 8 (2 : Int32) → (((M6 699 8) = 0 → K (0 : Int32) M6) ∧ (¬ (M6 699 8) = 0 → K (1 : Int32) M6))) ∧ (¬ p2 = 0 → ∀ M8, M8 = u2 M1 699 8 (0 : Int32) → (((M8 699 8) = 0 → K (0 : Int32) M8) ∧ (¬ (M8 699 8) = 0 → K (1 : Int32) M8))))) ∧ (¬ r2 = 0 → K (1 : Int32) M1)))
set_option maxRecDepth 100000 in
set_option maxHeartbeats 4000000 in
theorem c_X13_lacksBoth {ad : Nat → Nat} (p1 : Int32) (p2 : Int32) (M : TM) (K : Int32 → TM → Prop) (h : f_X13_lacksBoth p1 p2 M K) : MI yX13_lacksBoth cX13_lacksBoth 3 (some .boolean) 1 ad [.ref (ad 699), .int p1, .int p2] M (fun r M' => (r = 0 ∨ r = 1) ∧ K r M') := by
  refine MI_of RX13 rfl (by decide +kernel) (Nat.le_of_ble_eq_true rfl) (fun p l e s m below meth c D tc E hr => ?_)
  unfold f_X13_lacksBoth at h
  refine ra_aload_n E dX13_lacksBoth_0 rfl 0 rfl ?_
  refine ra_iload_n E dX13_lacksBoth_1 rfl 1 rfl ?_
  refine ra_callIV (rest := []) E (c_X13_lacks _ _ _ h) lq_13 cv_X13_lacks ml_X13_82 (by decide) (lmM (by decide)) (fun R => ⟨_, cel_699 tc ad R⟩) rfl rfl rfl (Nat.le_of_ble_eq_true rfl) ⟨Nat.le_of_ble_eq_true rfl, Nat.le_of_ble_eq_true rfl⟩ ⟨Nat.zero_le _, Nat.zero_le _⟩ dX13_lacksBoth_2 (fun r2 M1 h => ?_)
  obtain ⟨b3, h⟩ := h
  refine ra_if_eq (tgt := 10) E dX13_lacksBoth_5 (by decide) (fun q4 => ?_) (fun q4 => ?_)
  · replace h := h.1 q4
    refine ra_aload_n E dX13_lacksBoth_10 rfl 0 rfl ?_
    refine ra_iload_n E dX13_lacksBoth_11 rfl 2 rfl ?_
    refine ra_if_eq (tgt := 19) E dX13_lacksBoth_12 (by decide) (fun q5 => ?_) (fun q5 => ?_)
    · replace h := h.1 q5
      refine ra_iconst E dX13_lacksBoth_19 ki_2 ?_
      refine pf_X13_8 E lm13 fl_X13_79 dX13_lacksBoth_20 ?_
      replace h := h _ rfl
      refine ra_aload_n E dX13_lacksBoth_23 rfl 0 rfl ?_
      refine gf_X13_8 E lm13 fl_X13_79 dX13_lacksBoth_24 ?_
      refine ra_if_eq (tgt := 34) E dX13_lacksBoth_27 (by decide) (fun q7 => ?_) (fun q7 => ?_)
      · replace h := h.1 q7
        refine ra_iconst E dX13_lacksBoth_34 ki_0 ?_
        exact ra_zret E hr rfl dX13_lacksBoth_35 ⟨Or.inl rfl, h⟩
      · replace h := h.2 q7
        refine ra_iconst E dX13_lacksBoth_30 ki_1 ?_
        refine ra_goto (tgt := 35) E dX13_lacksBoth_31 (by decide) ?_
        exact ra_zret E hr rfl dX13_lacksBoth_35 ⟨Or.inr rfl, h⟩
    · replace h := h.2 q5
      refine ra_iconst E dX13_lacksBoth_15 ki_0 ?_
      refine ra_goto (tgt := 20) E dX13_lacksBoth_16 (by decide) ?_
      refine pf_X13_8 E lm13 fl_X13_79 dX13_lacksBoth_20 ?_
      replace h := h _ rfl
      refine ra_aload_n E dX13_lacksBoth_23 rfl 0 rfl ?_
      refine gf_X13_8 E lm13 fl_X13_79 dX13_lacksBoth_24 ?_
      refine ra_if_eq (tgt := 34) E dX13_lacksBoth_27 (by decide) (fun q9 => ?_) (fun q9 => ?_)
      · replace h := h.1 q9
        refine ra_iconst E dX13_lacksBoth_34 ki_0 ?_
        exact ra_zret E hr rfl dX13_lacksBoth_35 ⟨Or.inl rfl, h⟩
      · replace h := h.2 q9
        refine ra_iconst E dX13_lacksBoth_30 ki_1 ?_
        refine ra_goto (tgt := 35) E dX13_lacksBoth_31 (by decide) ?_
        exact ra_zret E hr rfl dX13_lacksBoth_35 ⟨Or.inr rfl, h⟩
  · replace h := h.2 q4
    refine ra_iconst E dX13_lacksBoth_8 ki_1 ?_
    exact ra_zret E hr rfl dX13_lacksBoth_9 ⟨Or.inr rfl, h⟩
def f_X13_sizeOf (p0 : Int32) (M : TM) (K : Int32 → TM → Prop) : Prop := ((0 ≤ p0 → K p0 M) ∧ (¬ 0 ≤ p0 → K (-p0) M))
set_option maxRecDepth 100000 in
set_option maxHeartbeats 4000000 in
theorem c_X13_sizeOf {ad : Nat → Nat} (p0 : Int32) (M : TM) (K : Int32 → TM → Prop) (h : f_X13_sizeOf p0 M K) : MI yX13_sizeOf cX13_sizeOf 1 (some .int) 0 ad [.int p0] M K := by
  refine MI_of RX13 rfl (by decide +kernel) (Nat.le_of_ble_eq_true rfl) (fun p l e s m below meth c D tc E hr => ?_)
  unfold f_X13_sizeOf at h
  refine ra_iload_n E dX13_sizeOf_0 rfl 0 rfl ?_
  refine ra_if_ge (tgt := 9) E dX13_sizeOf_1 (by decide) (fun q1 => ?_) (fun q1 => ?_)
  · replace h := h.1 q1
    refine ra_iload_n E dX13_sizeOf_9 rfl 0 rfl ?_
    exact ra_iret E hr dX13_sizeOf_10 h
  · replace h := h.2 q1
    refine ra_iload_n E dX13_sizeOf_4 rfl 0 rfl ?_
    refine ra_ineg E dX13_sizeOf_5 ?_
    refine ra_goto (tgt := 10) E dX13_sizeOf_6 (by decide) ?_
    exact ra_iret E hr dX13_sizeOf_10 h
def f_X13_least (p0 : Int32) (p1 : Int32) (M : TM) (K : Int32 → TM → Prop) : Prop := ((p1 ≤ p0 → K p1 M) ∧ (¬ p1 ≤ p0 → K p0 M))
set_option maxRecDepth 100000 in
set_option maxHeartbeats 4000000 in
theorem c_X13_least {ad : Nat → Nat} (p0 : Int32) (p1 : Int32) (M : TM) (K : Int32 → TM → Prop) (h : f_X13_least p0 p1 M K) : MI yX13_least cX13_least 2 (some .int) 0 ad [.int p0, .int p1] M K := by
  refine MI_of RX13 rfl (by decide +kernel) (Nat.le_of_ble_eq_true rfl) (fun p l e s m below meth c D tc E hr => ?_)
  unfold f_X13_least at h
  refine ra_iload_n E dX13_least_0 rfl 0 rfl ?_
  refine ra_iload_n E dX13_least_1 rfl 1 rfl ?_
  refine ra_icmp_ge (tgt := 9) E dX13_least_2 (by decide) (fun q1 => ?_) (fun q1 => ?_)
  · replace h := h.1 q1
    refine ra_iload_n E dX13_least_9 rfl 1 rfl ?_
    exact ra_iret E hr dX13_least_10 h
  · replace h := h.2 q1
    refine ra_iload_n E dX13_least_5 rfl 0 rfl ?_
    refine ra_goto (tgt := 10) E dX13_least_6 (by decide) ?_
    exact ra_iret E hr dX13_least_10 h
def f_X13_most (p0 : Int32) (p1 : Int32) (M : TM) (K : Int32 → TM → Prop) : Prop := ((p0 ≤ p1 → K p1 M) ∧ (¬ p0 ≤ p1 → K p0 M))
set_option maxRecDepth 100000 in
set_option maxHeartbeats 4000000 in
theorem c_X13_most {ad : Nat → Nat} (p0 : Int32) (p1 : Int32) (M : TM) (K : Int32 → TM → Prop) (h : f_X13_most p0 p1 M K) : MI yX13_most cX13_most 2 (some .int) 0 ad [.int p0, .int p1] M K := by
  refine MI_of RX13 rfl (by decide +kernel) (Nat.le_of_ble_eq_true rfl) (fun p l e s m below meth c D tc E hr => ?_)
  unfold f_X13_most at h
  refine ra_iload_n E dX13_most_0 rfl 0 rfl ?_
  refine ra_iload_n E dX13_most_1 rfl 1 rfl ?_
  refine ra_icmp_le (tgt := 9) E dX13_most_2 (by decide) (fun q1 => ?_) (fun q1 => ?_)
  · replace h := h.1 q1
    refine ra_iload_n E dX13_most_9 rfl 1 rfl ?_
    exact ra_iret E hr dX13_most_10 h
  · replace h := h.2 q1
    refine ra_iload_n E dX13_most_5 rfl 0 rfl ?_
    refine ra_goto (tgt := 10) E dX13_most_6 (by decide) ?_
    exact ra_iret E hr dX13_most_10 h
def f_X13_begin_L2 (p1 : Int32) (K : TM → Prop) : Nat → Int32 → Int32 → TM → Prop
  | 0, _, _, _ => False
  | n + 1, x1, x2, M => (((377 : Int32) ≤ x2 → vp_in (M 699 6) 2 ∧ vp_in (1 : Int32) 377 ∧ ∀ M4, M4 = u2 M (700 + (M 699 6).toNatClampNeg) (1 : Int32).toNatClampNeg x1 → K M4) ∧ (¬ (377 : Int32) ≤ x2 → vp_in (M 699 6) 2 ∧ vp_in x2 377 ∧ ∀ M7, M7 = u2 M (700 + (M 699 6).toNatClampNeg) x2.toNatClampNeg (0 : Int32) → f_X13_begin_L2 p1 K n x1 (x2 + 1) M7))
set_option maxRecDepth 100000 in
set_option maxHeartbeats 4000000 in
theorem l_X13_begin_L2 {p : Program} {l : Launch} {e : Env} {s : State} {m : MethodId} {args : Array Value} {below : List Frame} {meth : Method} {c : Code} {D : va_G} {tc : Nat → ClassId} {ad : Nat → Nat} (p1 : Int32) {K : TM → Prop} (E : Ev p s m args meth c D tc ad RX13 cX13_begin 3) (hr : meth.sig.returnType = none) : ∀ (n : Nat) (x1 : Int32) (x2 : Int32) (M : TM) , f_X13_begin_L2 p1 K n x1 x2 M → Wa p l e (rmD 0) s m args below meth c 0 0 (MQ below (va_Qv K (EndW D tc ad) (A0 ad s.heap.size)) args s 0 0 (A0 ad s.heap.size)) D tc ad 3 M 2 [(0, .ref (ad 699)), (1, .int x1), (2, .int x2)] [] := by
  intro n
  induction n with
  | zero => intro x1 x2 M  h; exact h.elim
  | succ n ih =>
    intro x1 x2 M  h
    unfold f_X13_begin_L2 at h
    refine ra_iload_n E dX13_begin_2 rfl 2 rfl ?_
    refine ra_sipush E dX13_begin_3 ks_377 ?_
    refine ra_icmp_ge (tgt := 22) E dX13_begin_6 (by decide) (fun q1 => ?_) (fun q1 => ?_)
    · replace h := h.1 q1
      refine ra_aload_n E dX13_begin_22 rfl 0 rfl ?_
      obtain ⟨g2, h⟩ := h
      refine gf_X13_6 E lm13 fl_X13_28 dX13_begin_23 ?_
      refine ra_iconst E dX13_begin_26 ki_1 ?_
      refine ra_iload_n E dX13_begin_27 rfl 1 rfl ?_
      obtain ⟨g3, h⟩ := h
      refine ra_iast E (lmM (isRow_of g2).lt) (cel_row tc ad (isRow_of g2)) g3 dX13_begin_28 ?_
      replace h := h _ rfl
      exact ra_vret E hr dX13_begin_29 h
    · replace h := h.2 q1
      refine ra_aload_n E dX13_begin_9 rfl 0 rfl ?_
      obtain ⟨g5, h⟩ := h
      refine gf_X13_6 E lm13 fl_X13_28 dX13_begin_10 ?_
      refine ra_iload_n E dX13_begin_13 rfl 2 rfl ?_
      refine ra_iconst E dX13_begin_14 ki_0 ?_
      obtain ⟨g6, h⟩ := h
      refine ra_iast E (lmM (isRow_of g5).lt) (cel_row tc ad (isRow_of g5)) g6 dX13_begin_15 ?_
      replace h := h _ rfl
      refine ra_iinc1 (L' := [(2, _), (0, _), (1, _)]) E dX13_begin_16 2 rfl (by decide) rfl ?_
      refine ra_goto (tgt := 2) E dX13_begin_19 (by decide) ?_
      exact ra_sub (L' := [(0, _), (1, _), (2, _)]) [1, 2, 0] rfl (ih _ _ _ h)
def f_X13_begin (p1 : Int32) (M : TM) (K : TM → Prop) : Prop := ∃ n, f_X13_begin_L2 p1 K n p1 (0 : Int32) M
set_option maxRecDepth 100000 in
set_option maxHeartbeats 4000000 in
theorem c_X13_begin {ad : Nat → Nat} (p1 : Int32) (M : TM) (K : TM → Prop) (h : f_X13_begin p1 M K) : MV yX13_begin cX13_begin 3 0 ad [.ref (ad 699), .int p1] M K := by
  refine MV_of RX13 rfl (by decide +kernel) (Nat.le_of_ble_eq_true rfl) (fun p l e s m below meth c D tc E hr => ?_)
  unfold f_X13_begin at h
  refine ra_iconst E dX13_begin_0 ki_0 ?_
  refine ra_istore_n (L' := [(2, _), (0, _), (1, _)]) E dX13_begin_1 rfl (by decide) rfl ?_
  obtain ⟨n8, h⟩ := h
  exact ra_sub (L' := [(0, _), (1, _), (2, _)]) [1, 2, 0] rfl (l_X13_begin_L2 p1 E hr n8 _ _ _ h)
def f_X13_of (p1 : Int32) (p2 : Int32) (M : TM) (K : Int32 → TM → Prop) : Prop := vp_in (M 699 6) 2 ∧ vp_in (((72 : Int32) + ((7 : Int32) * p1)) + p2) 377 ∧ K (M (700 + (M 699 6).toNatClampNeg) (((72 : Int32) + ((7 : Int32) * p1)) + p2).toNatClampNeg) M
set_option maxRecDepth 100000 in
set_option maxHeartbeats 4000000 in
theorem c_X13_of {ad : Nat → Nat} (p1 : Int32) (p2 : Int32) (M : TM) (K : Int32 → TM → Prop) (h : f_X13_of p1 p2 M K) : MI yX13_of cX13_of 3 (some .int) 0 ad [.ref (ad 699), .int p1, .int p2] M K := by
  refine MI_of RX13 rfl (by decide +kernel) (Nat.le_of_ble_eq_true rfl) (fun p l e s m below meth c D tc E hr => ?_)
  unfold f_X13_of at h
  refine ra_aload_n E dX13_of_0 rfl 0 rfl ?_
  obtain ⟨g1, h⟩ := h
  refine gf_X13_6 E lm13 fl_X13_28 dX13_of_1 ?_
  refine ra_bipush E dX13_of_4 kb_72 ?_
  refine ra_bipush E dX13_of_6 kb_7 ?_
  refine ra_iload_n E dX13_of_8 rfl 1 rfl ?_
  refine ra_imul E dX13_of_9 ?_
  refine ra_iadd E dX13_of_10 ?_
  refine ra_iload_n E dX13_of_11 rfl 2 rfl ?_
  refine ra_iadd E dX13_of_12 ?_
  obtain ⟨g2, h⟩ := h
  refine ra_iald E (lmM (isRow_of g1).lt) (cel_row tc ad (isRow_of g1)) g2 dX13_of_13 ?_
  exact ra_iret E hr dX13_of_14 h
def f_X13_lay (p1 : Int32) (p2 : Int32) (p3 : Int32) (M : TM) (K : TM → Prop) : Prop := vp_in (M 699 6) 2 ∧ vp_in (((72 : Int32) + ((7 : Int32) * p1)) + p2) 377 ∧ ∀ M3, M3 = u2 M (700 + (M 699 6).toNatClampNeg) (((72 : Int32) + ((7 : Int32) * p1)) + p2).toNatClampNeg p3 → K M3
set_option maxRecDepth 100000 in
set_option maxHeartbeats 4000000 in
theorem c_X13_lay {ad : Nat → Nat} (p1 : Int32) (p2 : Int32) (p3 : Int32) (M : TM) (K : TM → Prop) (h : f_X13_lay p1 p2 p3 M K) : MV yX13_lay cX13_lay 4 0 ad [.ref (ad 699), .int p1, .int p2, .int p3] M K := by
  refine MV_of RX13 rfl (by decide +kernel) (Nat.le_of_ble_eq_true rfl) (fun p l e s m below meth c D tc E hr => ?_)
  unfold f_X13_lay at h
  refine ra_aload_n E dX13_lay_0 rfl 0 rfl ?_
  obtain ⟨g1, h⟩ := h
  refine gf_X13_6 E lm13 fl_X13_28 dX13_lay_1 ?_
  refine ra_bipush E dX13_lay_4 kb_72 ?_
  refine ra_bipush E dX13_lay_6 kb_7 ?_
  refine ra_iload_n E dX13_lay_8 rfl 1 rfl ?_
  refine ra_imul E dX13_lay_9 ?_
  refine ra_iadd E dX13_lay_10 ?_
  refine ra_iload_n E dX13_lay_11 rfl 2 rfl ?_
  refine ra_iadd E dX13_lay_12 ?_
  refine ra_iload_n E dX13_lay_13 rfl 3 rfl ?_
  obtain ⟨g2, h⟩ := h
  refine ra_iast E (lmM (isRow_of g1).lt) (cel_row tc ad (isRow_of g1)) g2 dX13_lay_14 ?_
  replace h := h _ rfl
  exact ra_vret E hr dX13_lay_15 h
def f_X13_add (p1 : Int32) (p2 : Int32) (p3 : Int32) (M : TM) (K : TM → Prop) : Prop := f_X13_of p1 p2 M (fun r2 M1 => f_X13_lay p1 p2 (r2 + p3) M1 (fun M3 => K M3))
set_option maxRecDepth 100000 in
set_option maxHeartbeats 4000000 in
theorem c_X13_add {ad : Nat → Nat} (p1 : Int32) (p2 : Int32) (p3 : Int32) (M : TM) (K : TM → Prop) (h : f_X13_add p1 p2 p3 M K) : MV yX13_add cX13_add 4 1 ad [.ref (ad 699), .int p1, .int p2, .int p3] M K := by
  refine MV_of RX13 rfl (by decide +kernel) (Nat.le_of_ble_eq_true rfl) (fun p l e s m below meth c D tc E hr => ?_)
  unfold f_X13_add at h
  refine ra_aload_n E dX13_add_0 rfl 0 rfl ?_
  refine ra_iload_n E dX13_add_1 rfl 1 rfl ?_
  refine ra_iload_n E dX13_add_2 rfl 2 rfl ?_
  refine ra_aload_n E dX13_add_3 rfl 0 rfl ?_
  refine ra_iload_n E dX13_add_4 rfl 1 rfl ?_
  refine ra_iload_n E dX13_add_5 rfl 2 rfl ?_
  refine ra_callIV (rest := [_, _, _]) E (c_X13_of _ _ _ _ h) lq_13 cv_X13_of ml_X13_93 (by decide) (lmM (by decide)) (fun R => ⟨_, cel_699 tc ad R⟩) rfl rfl rfl (Nat.le_of_ble_eq_true rfl) ⟨Nat.le_of_ble_eq_true rfl, Nat.le_of_ble_eq_true rfl⟩ ⟨Nat.zero_le _, Nat.zero_le _⟩ dX13_add_6 (fun r2 M1 h => ?_)
  refine ra_iload_n E dX13_add_9 rfl 3 rfl ?_
  refine ra_iadd E dX13_add_10 ?_
  refine ra_callVV (rest := []) E (c_X13_lay _ _ _ _ _ h) lq_13 cv_X13_lay ml_X13_86 (by decide) (lmM (by decide)) (fun R => ⟨_, cel_699 tc ad R⟩) rfl rfl rfl (Nat.le_of_ble_eq_true rfl) ⟨Nat.le_of_ble_eq_true rfl, Nat.le_of_ble_eq_true rfl⟩ ⟨Nat.zero_le _, Nat.zero_le _⟩ dX13_add_11 (fun M3 h => ?_)
  exact ra_vret E hr dX13_add_14 h
def f_X13_ofOrder (p1 : Int32) (p2 : Int32) (M : TM) (K : Int32 → TM → Prop) : Prop := vp_in (M 699 6) 2 ∧ vp_in (((107 : Int32) + ((9 : Int32) * p1)) + p2) 377 ∧ K (M (700 + (M 699 6).toNatClampNeg) (((107 : Int32) + ((9 : Int32) * p1)) + p2).toNatClampNeg) M
set_option maxRecDepth 100000 in
set_option maxHeartbeats 4000000 in
theorem c_X13_ofOrder {ad : Nat → Nat} (p1 : Int32) (p2 : Int32) (M : TM) (K : Int32 → TM → Prop) (h : f_X13_ofOrder p1 p2 M K) : MI yX13_ofOrder cX13_ofOrder 3 (some .int) 0 ad [.ref (ad 699), .int p1, .int p2] M K := by
  refine MI_of RX13 rfl (by decide +kernel) (Nat.le_of_ble_eq_true rfl) (fun p l e s m below meth c D tc E hr => ?_)
  unfold f_X13_ofOrder at h
  refine ra_aload_n E dX13_ofOrder_0 rfl 0 rfl ?_
  obtain ⟨g1, h⟩ := h
  refine gf_X13_6 E lm13 fl_X13_28 dX13_ofOrder_1 ?_
  refine ra_bipush E dX13_ofOrder_4 kb_107 ?_
  refine ra_bipush E dX13_ofOrder_6 kb_9 ?_
  refine ra_iload_n E dX13_ofOrder_8 rfl 1 rfl ?_
  refine ra_imul E dX13_ofOrder_9 ?_
  refine ra_iadd E dX13_ofOrder_10 ?_
  refine ra_iload_n E dX13_ofOrder_11 rfl 2 rfl ?_
  refine ra_iadd E dX13_ofOrder_12 ?_
  obtain ⟨g2, h⟩ := h
  refine ra_iald E (lmM (isRow_of g1).lt) (cel_row tc ad (isRow_of g1)) g2 dX13_ofOrder_13 ?_
  exact ra_iret E hr dX13_ofOrder_14 h
def f_X13_layOrder (p1 : Int32) (p2 : Int32) (p3 : Int32) (M : TM) (K : TM → Prop) : Prop := vp_in (M 699 6) 2 ∧ vp_in (((107 : Int32) + ((9 : Int32) * p1)) + p2) 377 ∧ ∀ M3, M3 = u2 M (700 + (M 699 6).toNatClampNeg) (((107 : Int32) + ((9 : Int32) * p1)) + p2).toNatClampNeg p3 → K M3
set_option maxRecDepth 100000 in
set_option maxHeartbeats 4000000 in
theorem c_X13_layOrder {ad : Nat → Nat} (p1 : Int32) (p2 : Int32) (p3 : Int32) (M : TM) (K : TM → Prop) (h : f_X13_layOrder p1 p2 p3 M K) : MV yX13_layOrder cX13_layOrder 4 0 ad [.ref (ad 699), .int p1, .int p2, .int p3] M K := by
  refine MV_of RX13 rfl (by decide +kernel) (Nat.le_of_ble_eq_true rfl) (fun p l e s m below meth c D tc E hr => ?_)
  unfold f_X13_layOrder at h
  refine ra_aload_n E dX13_layOrder_0 rfl 0 rfl ?_
  obtain ⟨g1, h⟩ := h
  refine gf_X13_6 E lm13 fl_X13_28 dX13_layOrder_1 ?_
  refine ra_bipush E dX13_layOrder_4 kb_107 ?_
  refine ra_bipush E dX13_layOrder_6 kb_9 ?_
  refine ra_iload_n E dX13_layOrder_8 rfl 1 rfl ?_
  refine ra_imul E dX13_layOrder_9 ?_
  refine ra_iadd E dX13_layOrder_10 ?_
  refine ra_iload_n E dX13_layOrder_11 rfl 2 rfl ?_
  refine ra_iadd E dX13_layOrder_12 ?_
  refine ra_iload_n E dX13_layOrder_13 rfl 3 rfl ?_
  obtain ⟨g2, h⟩ := h
  refine ra_iast E (lmM (isRow_of g1).lt) (cel_row tc ad (isRow_of g1)) g2 dX13_layOrder_14 ?_
  replace h := h _ rfl
  exact ra_vret E hr dX13_layOrder_15 h
def f_X13_isPlace (p1 : Int32) (M : TM) (K : Int32 → TM → Prop) : Prop := vp_in (M 699 6) 2 ∧ vp_in (1 : Int32) 377 ∧ f_X13_inRange p1 (0 : Int32) ((M (700 + (M 699 6).toNatClampNeg) (1 : Int32).toNatClampNeg) - (1 : Int32)) M (fun r4 M3 => K r4 M3)
set_option maxRecDepth 100000 in
set_option maxHeartbeats 4000000 in
theorem c_X13_isPlace {ad : Nat → Nat} (p1 : Int32) (M : TM) (K : Int32 → TM → Prop) (h : f_X13_isPlace p1 M K) : MI yX13_isPlace cX13_isPlace 2 (some .boolean) 1 ad [.ref (ad 699), .int p1] M (fun r M' => (r = 0 ∨ r = 1) ∧ K r M') := by
  refine MI_of RX13 rfl (by decide +kernel) (Nat.le_of_ble_eq_true rfl) (fun p l e s m below meth c D tc E hr => ?_)
  unfold f_X13_isPlace at h
  refine ra_iload_n E dX13_isPlace_0 rfl 1 rfl ?_
  refine ra_iconst E dX13_isPlace_1 ki_0 ?_
  refine ra_aload_n E dX13_isPlace_2 rfl 0 rfl ?_
  obtain ⟨g1, h⟩ := h
  refine gf_X13_6 E lm13 fl_X13_28 dX13_isPlace_3 ?_
  refine ra_iconst E dX13_isPlace_6 ki_1 ?_
  obtain ⟨g2, h⟩ := h
  refine ra_iald E (lmM (isRow_of g1).lt) (cel_row tc ad (isRow_of g1)) g2 dX13_isPlace_7 ?_
  refine ra_iconst E dX13_isPlace_8 ki_1 ?_
  refine ra_isub E dX13_isPlace_9 ?_
  refine ra_callIS (rest := []) E (c_X13_inRange _ _ _ _ _ h) lq_13 ct_X13_inRange ml_X13_97 (by decide) rfl rfl (Nat.le_of_ble_eq_true rfl) ⟨Nat.le_of_ble_eq_true rfl, Nat.le_of_ble_eq_true rfl⟩ ⟨Nat.zero_le _, Nat.zero_le _⟩ dX13_isPlace_10 (fun r4 M3 h => ?_)
  obtain ⟨b5, h⟩ := h
  exact ra_zret E hr (nz_01 b5) dX13_isPlace_13 ⟨b5, h⟩
def f_X13_isSection (p1 : Int32) (M : TM) (K : Int32 → TM → Prop) : Prop := vp_in (M 699 6) 2 ∧ vp_in (1 : Int32) 377 ∧ f_X13_inRange p1 (0 : Int32) ((M (700 + (M 699 6).toNatClampNeg) (1 : Int32).toNatClampNeg) - (2 : Int32)) M (fun r4 M3 => K r4 M3)
set_option maxRecDepth 100000 in
set_option maxHeartbeats 4000000 in
theorem c_X13_isSection {ad : Nat → Nat} (p1 : Int32) (M : TM) (K : Int32 → TM → Prop) (h : f_X13_isSection p1 M K) : MI yX13_isSection cX13_isSection 2 (some .boolean) 1 ad [.ref (ad 699), .int p1] M (fun r M' => (r = 0 ∨ r = 1) ∧ K r M') := by
  refine MI_of RX13 rfl (by decide +kernel) (Nat.le_of_ble_eq_true rfl) (fun p l e s m below meth c D tc E hr => ?_)
  unfold f_X13_isSection at h
  refine ra_iload_n E dX13_isSection_0 rfl 1 rfl ?_
  refine ra_iconst E dX13_isSection_1 ki_0 ?_
  refine ra_aload_n E dX13_isSection_2 rfl 0 rfl ?_
  obtain ⟨g1, h⟩ := h
  refine gf_X13_6 E lm13 fl_X13_28 dX13_isSection_3 ?_
  refine ra_iconst E dX13_isSection_6 ki_1 ?_
  obtain ⟨g2, h⟩ := h
  refine ra_iald E (lmM (isRow_of g1).lt) (cel_row tc ad (isRow_of g1)) g2 dX13_isSection_7 ?_
  refine ra_iconst E dX13_isSection_8 ki_2 ?_
  refine ra_isub E dX13_isSection_9 ?_
  refine ra_callIS (rest := []) E (c_X13_inRange _ _ _ _ _ h) lq_13 ct_X13_inRange ml_X13_97 (by decide) rfl rfl (Nat.le_of_ble_eq_true rfl) ⟨Nat.le_of_ble_eq_true rfl, Nat.le_of_ble_eq_true rfl⟩ ⟨Nat.zero_le _, Nat.zero_le _⟩ dX13_isSection_10 (fun r4 M3 h => ?_)
  obtain ⟨b5, h⟩ := h
  exact ra_zret E hr (nz_01 b5) dX13_isSection_13 ⟨b5, h⟩
def f_X13_isBarge (p1 : Int32) (M : TM) (K : Int32 → TM → Prop) : Prop := vp_in (M 699 6) 2 ∧ vp_in (2 : Int32) 377 ∧ f_X13_inRange p1 (0 : Int32) ((M (700 + (M 699 6).toNatClampNeg) (2 : Int32).toNatClampNeg) - (1 : Int32)) M (fun r4 M3 => K r4 M3)
set_option maxRecDepth 100000 in
set_option maxHeartbeats 4000000 in
theorem c_X13_isBarge {ad : Nat → Nat} (p1 : Int32) (M : TM) (K : Int32 → TM → Prop) (h : f_X13_isBarge p1 M K) : MI yX13_isBarge cX13_isBarge 2 (some .boolean) 1 ad [.ref (ad 699), .int p1] M (fun r M' => (r = 0 ∨ r = 1) ∧ K r M') := by
  refine MI_of RX13 rfl (by decide +kernel) (Nat.le_of_ble_eq_true rfl) (fun p l e s m below meth c D tc E hr => ?_)
  unfold f_X13_isBarge at h
  refine ra_iload_n E dX13_isBarge_0 rfl 1 rfl ?_
  refine ra_iconst E dX13_isBarge_1 ki_0 ?_
  refine ra_aload_n E dX13_isBarge_2 rfl 0 rfl ?_
  obtain ⟨g1, h⟩ := h
  refine gf_X13_6 E lm13 fl_X13_28 dX13_isBarge_3 ?_
  refine ra_iconst E dX13_isBarge_6 ki_2 ?_
  obtain ⟨g2, h⟩ := h
  refine ra_iald E (lmM (isRow_of g1).lt) (cel_row tc ad (isRow_of g1)) g2 dX13_isBarge_7 ?_
  refine ra_iconst E dX13_isBarge_8 ki_1 ?_
  refine ra_isub E dX13_isBarge_9 ?_
  refine ra_callIS (rest := []) E (c_X13_inRange _ _ _ _ _ h) lq_13 ct_X13_inRange ml_X13_97 (by decide) rfl rfl (Nat.le_of_ble_eq_true rfl) ⟨Nat.le_of_ble_eq_true rfl, Nat.le_of_ble_eq_true rfl⟩ ⟨Nat.zero_le _, Nat.zero_le _⟩ dX13_isBarge_10 (fun r4 M3 h => ?_)
  obtain ⟨b5, h⟩ := h
  exact ra_zret E hr (nz_01 b5) dX13_isBarge_13 ⟨b5, h⟩
def f_X13_isOrder (p1 : Int32) (M : TM) (K : Int32 → TM → Prop) : Prop := vp_in (M 699 6) 2 ∧ vp_in (3 : Int32) 377 ∧ f_X13_inRange p1 (0 : Int32) ((M (700 + (M 699 6).toNatClampNeg) (3 : Int32).toNatClampNeg) - (1 : Int32)) M (fun r4 M3 => K r4 M3)
set_option maxRecDepth 100000 in
set_option maxHeartbeats 4000000 in
theorem c_X13_isOrder {ad : Nat → Nat} (p1 : Int32) (M : TM) (K : Int32 → TM → Prop) (h : f_X13_isOrder p1 M K) : MI yX13_isOrder cX13_isOrder 2 (some .boolean) 1 ad [.ref (ad 699), .int p1] M (fun r M' => (r = 0 ∨ r = 1) ∧ K r M') := by
  refine MI_of RX13 rfl (by decide +kernel) (Nat.le_of_ble_eq_true rfl) (fun p l e s m below meth c D tc E hr => ?_)
  unfold f_X13_isOrder at h
  refine ra_iload_n E dX13_isOrder_0 rfl 1 rfl ?_
  refine ra_iconst E dX13_isOrder_1 ki_0 ?_
  refine ra_aload_n E dX13_isOrder_2 rfl 0 rfl ?_
  obtain ⟨g1, h⟩ := h
  refine gf_X13_6 E lm13 fl_X13_28 dX13_isOrder_3 ?_
  refine ra_iconst E dX13_isOrder_6 ki_3 ?_
  obtain ⟨g2, h⟩ := h
  refine ra_iald E (lmM (isRow_of g1).lt) (cel_row tc ad (isRow_of g1)) g2 dX13_isOrder_7 ?_
  refine ra_iconst E dX13_isOrder_8 ki_1 ?_
  refine ra_isub E dX13_isOrder_9 ?_
  refine ra_callIS (rest := []) E (c_X13_inRange _ _ _ _ _ h) lq_13 ct_X13_inRange ml_X13_97 (by decide) rfl rfl (Nat.le_of_ble_eq_true rfl) ⟨Nat.le_of_ble_eq_true rfl, Nat.le_of_ble_eq_true rfl⟩ ⟨Nat.zero_le _, Nat.zero_le _⟩ dX13_isOrder_10 (fun r4 M3 h => ?_)
  obtain ⟨b5, h⟩ := h
  exact ra_zret E hr (nz_01 b5) dX13_isOrder_13 ⟨b5, h⟩
def f_X13_isIn (p1 : Int32) (p2 : Int32) (M : TM) (K : Int32 → TM → Prop) : Prop := f_X13_ofOrder p1 (4 : Int32) M (fun r2 M1 => ((¬ r2 = p2 → K (0 : Int32) M1) ∧ (r2 = p2 → K (1 : Int32) M1)))
set_option maxRecDepth 100000 in
set_option maxHeartbeats 4000000 in
theorem c_X13_isIn {ad : Nat → Nat} (p1 : Int32) (p2 : Int32) (M : TM) (K : Int32 → TM → Prop) (h : f_X13_isIn p1 p2 M K) : MI yX13_isIn cX13_isIn 3 (some .boolean) 1 ad [.ref (ad 699), .int p1, .int p2] M (fun r M' => (r = 0 ∨ r = 1) ∧ K r M') := by
  refine MI_of RX13 rfl (by decide +kernel) (Nat.le_of_ble_eq_true rfl) (fun p l e s m below meth c D tc E hr => ?_)
  unfold f_X13_isIn at h
  refine ra_aload_n E dX13_isIn_0 rfl 0 rfl ?_
  refine ra_iload_n E dX13_isIn_1 rfl 1 rfl ?_
  refine ra_iconst E dX13_isIn_2 ki_4 ?_
  refine ra_callIV (rest := []) E (c_X13_ofOrder _ _ _ _ h) lq_13 cv_X13_ofOrder ml_X13_101 (by decide) (lmM (by decide)) (fun R => ⟨_, cel_699 tc ad R⟩) rfl rfl rfl (Nat.le_of_ble_eq_true rfl) ⟨Nat.le_of_ble_eq_true rfl, Nat.le_of_ble_eq_true rfl⟩ ⟨Nat.zero_le _, Nat.zero_le _⟩ dX13_isIn_3 (fun r2 M1 h => ?_)
  refine ra_iload_n E dX13_isIn_6 rfl 2 rfl ?_
  refine ra_icmp_ne (tgt := 14) E dX13_isIn_7 (by decide) (fun q3 => ?_) (fun q3 => ?_)
  · replace h := h.1 q3
    refine ra_iconst E dX13_isIn_14 ki_0 ?_
    exact ra_zret E hr rfl dX13_isIn_15 ⟨Or.inl rfl, h⟩
  · replace h := h.2 q3
    refine ra_iconst E dX13_isIn_10 ki_1 ?_
    refine ra_goto (tgt := 15) E dX13_isIn_11 (by decide) ?_
    exact ra_zret E hr rfl dX13_isIn_15 ⟨Or.inr rfl, h⟩
def f_X13_isInLock (p1 : Int32) (M : TM) (K : Int32 → TM → Prop) : Prop := f_X13_of p1 (6 : Int32) M (fun r2 M1 => ((r2 ≤ 0 → K (0 : Int32) M1) ∧ (¬ r2 ≤ 0 → K (1 : Int32) M1)))
set_option maxRecDepth 100000 in
set_option maxHeartbeats 4000000 in
theorem c_X13_isInLock {ad : Nat → Nat} (p1 : Int32) (M : TM) (K : Int32 → TM → Prop) (h : f_X13_isInLock p1 M K) : MI yX13_isInLock cX13_isInLock 2 (some .boolean) 1 ad [.ref (ad 699), .int p1] M (fun r M' => (r = 0 ∨ r = 1) ∧ K r M') := by
  refine MI_of RX13 rfl (by decide +kernel) (Nat.le_of_ble_eq_true rfl) (fun p l e s m below meth c D tc E hr => ?_)
  unfold f_X13_isInLock at h
  refine ra_aload_n E dX13_isInLock_0 rfl 0 rfl ?_
  refine ra_iload_n E dX13_isInLock_1 rfl 1 rfl ?_
  refine ra_bipush E dX13_isInLock_2 kb_6 ?_
  refine ra_callIV (rest := []) E (c_X13_of _ _ _ _ h) lq_13 cv_X13_of ml_X13_93 (by decide) (lmM (by decide)) (fun R => ⟨_, cel_699 tc ad R⟩) rfl rfl rfl (Nat.le_of_ble_eq_true rfl) ⟨Nat.le_of_ble_eq_true rfl, Nat.le_of_ble_eq_true rfl⟩ ⟨Nat.zero_le _, Nat.zero_le _⟩ dX13_isInLock_4 (fun r2 M1 h => ?_)
  refine ra_if_le (tgt := 14) E dX13_isInLock_7 (by decide) (fun q3 => ?_) (fun q3 => ?_)
  · replace h := h.1 q3
    refine ra_iconst E dX13_isInLock_14 ki_0 ?_
    exact ra_zret E hr rfl dX13_isInLock_15 ⟨Or.inl rfl, h⟩
  · replace h := h.2 q3
    refine ra_iconst E dX13_isInLock_10 ki_1 ?_
    refine ra_goto (tgt := 15) E dX13_isInLock_11 (by decide) ?_
    exact ra_zret E hr rfl dX13_isInLock_15 ⟨Or.inr rfl, h⟩
def f_X13_isFree (p1 : Int32) (p2 : Int32) (M : TM) (K : Int32 → TM → Prop) : Prop := f_X13_isInLock p1 M (fun r2 M1 => ((¬ r2 = 0 → K (0 : Int32) M1) ∧ (r2 = 0 → f_X13_of p1 (0 : Int32) M1 (fun r6 M5 => ((¬ r6 = p2 → K (0 : Int32) M5) ∧ (r6 = p2 → K (1 : Int32) M5))))))
set_option maxRecDepth 100000 in
set_option maxHeartbeats 4000000 in
theorem c_X13_isFree {ad : Nat → Nat} (p1 : Int32) (p2 : Int32) (M : TM) (K : Int32 → TM → Prop) (h : f_X13_isFree p1 p2 M K) : MI yX13_isFree cX13_isFree 3 (some .boolean) 2 ad [.ref (ad 699), .int p1, .int p2] M (fun r M' => (r = 0 ∨ r = 1) ∧ K r M') := by
  refine MI_of RX13 rfl (by decide +kernel) (Nat.le_of_ble_eq_true rfl) (fun p l e s m below meth c D tc E hr => ?_)
  unfold f_X13_isFree at h
  refine ra_aload_n E dX13_isFree_0 rfl 0 rfl ?_
  refine ra_iload_n E dX13_isFree_1 rfl 1 rfl ?_
  refine ra_callIV (rest := []) E (c_X13_isInLock _ _ _ h) lq_13 cv_X13_isInLock ml_X13_104 (by decide) (lmM (by decide)) (fun R => ⟨_, cel_699 tc ad R⟩) rfl rfl rfl (Nat.le_of_ble_eq_true rfl) ⟨Nat.le_of_ble_eq_true rfl, Nat.le_of_ble_eq_true rfl⟩ ⟨Nat.zero_le _, Nat.zero_le _⟩ dX13_isFree_2 (fun r2 M1 h => ?_)
  obtain ⟨b3, h⟩ := h
  refine ra_if_ne (tgt := 22) E dX13_isFree_5 (by decide) (fun q4 => ?_) (fun q4 => ?_)
  · replace h := h.1 q4
    refine ra_iconst E dX13_isFree_22 ki_0 ?_
    exact ra_zret E hr rfl dX13_isFree_23 ⟨Or.inl rfl, h⟩
  · replace h := h.2 q4
    refine ra_aload_n E dX13_isFree_8 rfl 0 rfl ?_
    refine ra_iload_n E dX13_isFree_9 rfl 1 rfl ?_
    refine ra_iconst E dX13_isFree_10 ki_0 ?_
    refine ra_callIV (rest := []) E (c_X13_of _ _ _ _ h) lq_13 cv_X13_of ml_X13_93 (by decide) (lmM (by decide)) (fun R => ⟨_, cel_699 tc ad R⟩) rfl rfl rfl (Nat.le_of_ble_eq_true rfl) ⟨Nat.le_of_ble_eq_true rfl, Nat.le_of_ble_eq_true rfl⟩ ⟨Nat.zero_le _, Nat.zero_le _⟩ dX13_isFree_11 (fun r6 M5 h => ?_)
    refine ra_iload_n E dX13_isFree_14 rfl 2 rfl ?_
    refine ra_icmp_ne (tgt := 22) E dX13_isFree_15 (by decide) (fun q7 => ?_) (fun q7 => ?_)
    · replace h := h.1 q7
      refine ra_iconst E dX13_isFree_22 ki_0 ?_
      exact ra_zret E hr rfl dX13_isFree_23 ⟨Or.inl rfl, h⟩
    · replace h := h.2 q7
      refine ra_iconst E dX13_isFree_18 ki_1 ?_
      refine ra_goto (tgt := 23) E dX13_isFree_19 (by decide) ?_
      exact ra_zret E hr rfl dX13_isFree_23 ⟨Or.inr rfl, h⟩
def f_X13_sails (p1 : Int32) (M : TM) (K : Int32 → TM → Prop) : Prop := f_X13_of p1 (1 : Int32) M (fun r2 M1 => f_X13_of p1 (0 : Int32) M1 (fun r4 M3 => ((r2 = r4 → K (0 : Int32) M3) ∧ (¬ r2 = r4 → K (1 : Int32) M3))))
set_option maxRecDepth 100000 in
set_option maxHeartbeats 4000000 in
theorem c_X13_sails {ad : Nat → Nat} (p1 : Int32) (M : TM) (K : Int32 → TM → Prop) (h : f_X13_sails p1 M K) : MI yX13_sails cX13_sails 2 (some .boolean) 1 ad [.ref (ad 699), .int p1] M (fun r M' => (r = 0 ∨ r = 1) ∧ K r M') := by
  refine MI_of RX13 rfl (by decide +kernel) (Nat.le_of_ble_eq_true rfl) (fun p l e s m below meth c D tc E hr => ?_)
  unfold f_X13_sails at h
  refine ra_aload_n E dX13_sails_0 rfl 0 rfl ?_
  refine ra_iload_n E dX13_sails_1 rfl 1 rfl ?_
  refine ra_iconst E dX13_sails_2 ki_1 ?_
  refine ra_callIV (rest := []) E (c_X13_of _ _ _ _ h) lq_13 cv_X13_of ml_X13_93 (by decide) (lmM (by decide)) (fun R => ⟨_, cel_699 tc ad R⟩) rfl rfl rfl (Nat.le_of_ble_eq_true rfl) ⟨Nat.le_of_ble_eq_true rfl, Nat.le_of_ble_eq_true rfl⟩ ⟨Nat.zero_le _, Nat.zero_le _⟩ dX13_sails_3 (fun r2 M1 h => ?_)
  refine ra_aload_n E dX13_sails_6 rfl 0 rfl ?_
  refine ra_iload_n E dX13_sails_7 rfl 1 rfl ?_
  refine ra_iconst E dX13_sails_8 ki_0 ?_
  refine ra_callIV (rest := [_]) E (c_X13_of _ _ _ _ h) lq_13 cv_X13_of ml_X13_93 (by decide) (lmM (by decide)) (fun R => ⟨_, cel_699 tc ad R⟩) rfl rfl rfl (Nat.le_of_ble_eq_true rfl) ⟨Nat.le_of_ble_eq_true rfl, Nat.le_of_ble_eq_true rfl⟩ ⟨Nat.zero_le _, Nat.zero_le _⟩ dX13_sails_9 (fun r4 M3 h => ?_)
  refine ra_icmp_eq (tgt := 19) E dX13_sails_12 (by decide) (fun q5 => ?_) (fun q5 => ?_)
  · replace h := h.1 q5
    refine ra_iconst E dX13_sails_19 ki_0 ?_
    exact ra_zret E hr rfl dX13_sails_20 ⟨Or.inl rfl, h⟩
  · replace h := h.2 q5
    refine ra_iconst E dX13_sails_15 ki_1 ?_
    refine ra_goto (tgt := 20) E dX13_sails_16 (by decide) ?_
    exact ra_zret E hr rfl dX13_sails_20 ⟨Or.inr rfl, h⟩
def f_X13_sectionAhead (p1 : Int32) (M : TM) (K : Int32 → TM → Prop) : Prop := f_X13_of p1 (0 : Int32) M (fun r2 M1 => f_X13_of p1 (1 : Int32) M1 (fun r4 M3 => ((r4 ≤ r2 → K (r2 - (1 : Int32)) M3) ∧ (¬ r4 ≤ r2 → K r2 M3))))
set_option maxRecDepth 100000 in
set_option maxHeartbeats 4000000 in
theorem c_X13_sectionAhead {ad : Nat → Nat} (p1 : Int32) (M : TM) (K : Int32 → TM → Prop) (h : f_X13_sectionAhead p1 M K) : MI yX13_sectionAhead cX13_sectionAhead 3 (some .int) 1 ad [.ref (ad 699), .int p1] M K := by
  refine MI_of RX13 rfl (by decide +kernel) (Nat.le_of_ble_eq_true rfl) (fun p l e s m below meth c D tc E hr => ?_)
  unfold f_X13_sectionAhead at h
  refine ra_aload_n E dX13_sectionAhead_0 rfl 0 rfl ?_
  refine ra_iload_n E dX13_sectionAhead_1 rfl 1 rfl ?_
  refine ra_iconst E dX13_sectionAhead_2 ki_0 ?_
  refine ra_callIV (rest := []) E (c_X13_of _ _ _ _ h) lq_13 cv_X13_of ml_X13_93 (by decide) (lmM (by decide)) (fun R => ⟨_, cel_699 tc ad R⟩) rfl rfl rfl (Nat.le_of_ble_eq_true rfl) ⟨Nat.le_of_ble_eq_true rfl, Nat.le_of_ble_eq_true rfl⟩ ⟨Nat.zero_le _, Nat.zero_le _⟩ dX13_sectionAhead_3 (fun r2 M1 h => ?_)
  refine ra_istore_n (L' := [(2, _), (0, _), (1, _)]) E dX13_sectionAhead_6 rfl (by decide) rfl ?_
  refine ra_aload_n E dX13_sectionAhead_7 rfl 1 rfl ?_
  refine ra_iload_n E dX13_sectionAhead_8 rfl 2 rfl ?_
  refine ra_iconst E dX13_sectionAhead_9 ki_1 ?_
  refine ra_callIV (rest := []) E (c_X13_of _ _ _ _ h) lq_13 cv_X13_of ml_X13_93 (by decide) (lmM (by decide)) (fun R => ⟨_, cel_699 tc ad R⟩) rfl rfl rfl (Nat.le_of_ble_eq_true rfl) ⟨Nat.le_of_ble_eq_true rfl, Nat.le_of_ble_eq_true rfl⟩ ⟨Nat.zero_le _, Nat.zero_le _⟩ dX13_sectionAhead_10 (fun r4 M3 h => ?_)
  refine ra_iload_n E dX13_sectionAhead_13 rfl 0 rfl ?_
  refine ra_icmp_le (tgt := 21) E dX13_sectionAhead_14 (by decide) (fun q5 => ?_) (fun q5 => ?_)
  · replace h := h.1 q5
    refine ra_iload_n E dX13_sectionAhead_21 rfl 0 rfl ?_
    refine ra_iconst E dX13_sectionAhead_22 ki_1 ?_
    refine ra_isub E dX13_sectionAhead_23 ?_
    exact ra_iret E hr dX13_sectionAhead_24 h
  · replace h := h.2 q5
    refine ra_iload_n E dX13_sectionAhead_17 rfl 0 rfl ?_
    refine ra_goto (tgt := 24) E dX13_sectionAhead_18 (by decide) ?_
    exact ra_iret E hr dX13_sectionAhead_24 h
def f_X13_whoIsIn_L2 (p1 : Int32) (K : Int32 → TM → Prop) : Nat → Int32 → Int32 → TM → Prop
  | 0, _, _, _ => False
  | n + 1, x1, x2, M => vp_in (M 699 6) 2 ∧ vp_in (2 : Int32) 377 ∧ (((M (700 + (M 699 6).toNatClampNeg) (2 : Int32).toNatClampNeg) ≤ x2 → K (-1 : Int32) M) ∧ (¬ (M (700 + (M 699 6).toNatClampNeg) (2 : Int32).toNatClampNeg) ≤ x2 → f_X13_isInLock x2 M (fun r5 M4 => ((r5 = 0 → f_X13_whoIsIn_L2 p1 K n x1 (x2 + 1) M4) ∧ (¬ r5 = 0 → f_X13_sectionAhead x2 M4 (fun r9 M8 => ((¬ r9 = x1 → f_X13_whoIsIn_L2 p1 K n x1 (x2 + 1) M8) ∧ (r9 = x1 → K x2 M8))))))))
set_option maxRecDepth 100000 in
set_option maxHeartbeats 4000000 in
theorem l_X13_whoIsIn_L2 {p : Program} {l : Launch} {e : Env} {s : State} {m : MethodId} {args : Array Value} {below : List Frame} {meth : Method} {c : Code} {D : va_G} {tc : Nat → ClassId} {ad : Nat → Nat} (p1 : Int32) {K : Int32 → TM → Prop} (E : Ev p s m args meth c D tc ad RX13 cX13_whoIsIn 3) (hr : meth.sig.returnType = (some .int)) : ∀ (n : Nat) (x1 : Int32) (x2 : Int32) (M : TM) , f_X13_whoIsIn_L2 p1 K n x1 x2 M → Wa p l e (rmD 2) s m args below meth c 0 0 (MQ below (va_Qi K (EndW D tc ad) (A0 ad s.heap.size)) args s 0 0 (A0 ad s.heap.size)) D tc ad 3 M 2 [(0, .ref (ad 699)), (1, .int x1), (2, .int x2)] [] := by
  intro n
  induction n with
  | zero => intro x1 x2 M  h; exact h.elim
  | succ n ih =>
    intro x1 x2 M  h
    unfold f_X13_whoIsIn_L2 at h
    refine ra_iload_n E dX13_whoIsIn_2 rfl 2 rfl ?_
    refine ra_aload_n E dX13_whoIsIn_3 rfl 0 rfl ?_
    obtain ⟨g1, h⟩ := h
    refine gf_X13_6 E lm13 fl_X13_28 dX13_whoIsIn_4 ?_
    refine ra_iconst E dX13_whoIsIn_7 ki_2 ?_
    obtain ⟨g2, h⟩ := h
    refine ra_iald E (lmM (isRow_of g1).lt) (cel_row tc ad (isRow_of g1)) g2 dX13_whoIsIn_8 ?_
    refine ra_icmp_ge (tgt := 37) E dX13_whoIsIn_9 (by decide) (fun q3 => ?_) (fun q3 => ?_)
    · replace h := h.1 q3
      refine ra_iconst E dX13_whoIsIn_37 ki_m1 ?_
      exact ra_iret E hr dX13_whoIsIn_38 h
    · replace h := h.2 q3
      refine ra_aload_n E dX13_whoIsIn_12 rfl 0 rfl ?_
      refine ra_iload_n E dX13_whoIsIn_13 rfl 2 rfl ?_
      refine ra_callIV (rest := []) E (c_X13_isInLock _ _ _ h) lq_13 cv_X13_isInLock ml_X13_104 (by decide) (lmM (by decide)) (fun R => ⟨_, cel_699 tc ad R⟩) rfl rfl rfl (Nat.le_of_ble_eq_true rfl) ⟨Nat.le_of_ble_eq_true rfl, Nat.le_of_ble_eq_true rfl⟩ ⟨Nat.zero_le _, Nat.zero_le _⟩ dX13_whoIsIn_14 (fun r5 M4 h => ?_)
      obtain ⟨b6, h⟩ := h
      refine ra_if_eq (tgt := 31) E dX13_whoIsIn_17 (by decide) (fun q7 => ?_) (fun q7 => ?_)
      · replace h := h.1 q7
        refine ra_iinc1 (L' := [(2, _), (0, _), (1, _)]) E dX13_whoIsIn_31 2 rfl (by decide) rfl ?_
        refine ra_goto (tgt := 2) E dX13_whoIsIn_34 (by decide) ?_
        exact ra_sub (L' := [(0, _), (1, _), (2, _)]) [1, 2, 0] rfl (ih _ _ _ h)
      · replace h := h.2 q7
        refine ra_aload_n E dX13_whoIsIn_20 rfl 0 rfl ?_
        refine ra_iload_n E dX13_whoIsIn_21 rfl 2 rfl ?_
        refine ra_callIV (rest := []) E (c_X13_sectionAhead _ _ _ h) lq_13 cv_X13_sectionAhead ml_X13_108 (by decide) (lmM (by decide)) (fun R => ⟨_, cel_699 tc ad R⟩) rfl rfl rfl (Nat.le_of_ble_eq_true rfl) ⟨Nat.le_of_ble_eq_true rfl, Nat.le_of_ble_eq_true rfl⟩ ⟨Nat.zero_le _, Nat.zero_le _⟩ dX13_whoIsIn_22 (fun r9 M8 h => ?_)
        refine ra_iload_n E dX13_whoIsIn_25 rfl 1 rfl ?_
        refine ra_icmp_ne (tgt := 31) E dX13_whoIsIn_26 (by decide) (fun q10 => ?_) (fun q10 => ?_)
        · replace h := h.1 q10
          refine ra_iinc1 (L' := [(2, _), (0, _), (1, _)]) E dX13_whoIsIn_31 2 rfl (by decide) rfl ?_
          refine ra_goto (tgt := 2) E dX13_whoIsIn_34 (by decide) ?_
          exact ra_sub (L' := [(0, _), (1, _), (2, _)]) [1, 2, 0] rfl (ih _ _ _ h)
        · replace h := h.2 q10
          refine ra_iload_n E dX13_whoIsIn_29 rfl 2 rfl ?_
          exact ra_iret E hr dX13_whoIsIn_30 h
def f_X13_whoIsIn (p1 : Int32) (M : TM) (K : Int32 → TM → Prop) : Prop := ∃ n, f_X13_whoIsIn_L2 p1 K n p1 (0 : Int32) M
set_option maxRecDepth 100000 in
set_option maxHeartbeats 4000000 in
theorem c_X13_whoIsIn {ad : Nat → Nat} (p1 : Int32) (M : TM) (K : Int32 → TM → Prop) (h : f_X13_whoIsIn p1 M K) : MI yX13_whoIsIn cX13_whoIsIn 3 (some .int) 2 ad [.ref (ad 699), .int p1] M K := by
  refine MI_of RX13 rfl (by decide +kernel) (Nat.le_of_ble_eq_true rfl) (fun p l e s m below meth c D tc E hr => ?_)
  unfold f_X13_whoIsIn at h
  refine ra_iconst E dX13_whoIsIn_0 ki_0 ?_
  refine ra_istore_n (L' := [(2, _), (0, _), (1, _)]) E dX13_whoIsIn_1 rfl (by decide) rfl ?_
  obtain ⟨n11, h⟩ := h
  exact ra_sub (L' := [(0, _), (1, _), (2, _)]) [1, 2, 0] rfl (l_X13_whoIsIn_L2 p1 E hr n11 _ _ _ h)
def f_X13_countAt_L4 (p1 : Int32) (K : Int32 → TM → Prop) : Nat → Int32 → Int32 → Int32 → TM → Prop
  | 0, _, _, _, _ => False
  | n + 1, x1, x2, x3, M => vp_in (M 699 6) 2 ∧ vp_in (2 : Int32) 377 ∧ (((M (700 + (M 699 6).toNatClampNeg) (2 : Int32).toNatClampNeg) ≤ x3 → K x2 M) ∧ (¬ (M (700 + (M 699 6).toNatClampNeg) (2 : Int32).toNatClampNeg) ≤ x3 → f_X13_isFree x3 x1 M (fun r5 M4 => ((r5 = 0 → f_X13_countAt_L4 p1 K n x1 (x2 + (0 : Int32)) (x3 + 1) M4) ∧ (¬ r5 = 0 → f_X13_countAt_L4 p1 K n x1 (x2 + (1 : Int32)) (x3 + 1) M4)))))
set_option maxRecDepth 100000 in
set_option maxHeartbeats 4000000 in
theorem l_X13_countAt_L4 {p : Program} {l : Launch} {e : Env} {s : State} {m : MethodId} {args : Array Value} {below : List Frame} {meth : Method} {c : Code} {D : va_G} {tc : Nat → ClassId} {ad : Nat → Nat} (p1 : Int32) {K : Int32 → TM → Prop} (E : Ev p s m args meth c D tc ad RX13 cX13_countAt 4) (hr : meth.sig.returnType = (some .int)) : ∀ (n : Nat) (x1 : Int32) (x2 : Int32) (x3 : Int32) (M : TM) , f_X13_countAt_L4 p1 K n x1 x2 x3 M → Wa p l e (rmD 3) s m args below meth c 0 0 (MQ below (va_Qi K (EndW D tc ad) (A0 ad s.heap.size)) args s 0 0 (A0 ad s.heap.size)) D tc ad 4 M 4 [(0, .ref (ad 699)), (1, .int x1), (2, .int x2), (3, .int x3)] [] := by
  intro n
  induction n with
  | zero => intro x1 x2 x3 M  h; exact h.elim
  | succ n ih =>
    intro x1 x2 x3 M  h
    unfold f_X13_countAt_L4 at h
    refine ra_iload_n E dX13_countAt_4 rfl 3 rfl ?_
    refine ra_aload_n E dX13_countAt_5 rfl 0 rfl ?_
    obtain ⟨g1, h⟩ := h
    refine gf_X13_6 E lm13 fl_X13_28 dX13_countAt_6 ?_
    refine ra_iconst E dX13_countAt_9 ki_2 ?_
    obtain ⟨g2, h⟩ := h
    refine ra_iald E (lmM (isRow_of g1).lt) (cel_row tc ad (isRow_of g1)) g2 dX13_countAt_10 ?_
    refine ra_icmp_ge (tgt := 37) E dX13_countAt_11 (by decide) (fun q3 => ?_) (fun q3 => ?_)
    · replace h := h.1 q3
      refine ra_iload_n E dX13_countAt_37 rfl 2 rfl ?_
      exact ra_iret E hr dX13_countAt_38 h
    · replace h := h.2 q3
      refine ra_iload_n E dX13_countAt_14 rfl 2 rfl ?_
      refine ra_aload_n E dX13_countAt_15 rfl 0 rfl ?_
      refine ra_iload_n E dX13_countAt_16 rfl 3 rfl ?_
      refine ra_iload_n E dX13_countAt_17 rfl 1 rfl ?_
      refine ra_callIV (rest := [_]) E (c_X13_isFree _ _ _ _ h) lq_13 cv_X13_isFree ml_X13_112 (by decide) (lmM (by decide)) (fun R => ⟨_, cel_699 tc ad R⟩) rfl rfl rfl (Nat.le_of_ble_eq_true rfl) ⟨Nat.le_of_ble_eq_true rfl, Nat.le_of_ble_eq_true rfl⟩ ⟨Nat.zero_le _, Nat.zero_le _⟩ dX13_countAt_18 (fun r5 M4 h => ?_)
      obtain ⟨b6, h⟩ := h
      refine ra_if_eq (tgt := 28) E dX13_countAt_21 (by decide) (fun q7 => ?_) (fun q7 => ?_)
      · replace h := h.1 q7
        refine ra_iconst E dX13_countAt_28 ki_0 ?_
        refine ra_iadd E dX13_countAt_29 ?_
        refine ra_istore_n (L' := [(2, _), (0, _), (1, _), (3, _)]) E dX13_countAt_30 rfl (by decide) rfl ?_
        refine ra_iinc1 (L' := [(3, _), (2, _), (0, _), (1, _)]) E dX13_countAt_31 3 rfl (by decide) rfl ?_
        refine ra_goto (tgt := 4) E dX13_countAt_34 (by decide) ?_
        exact ra_sub (L' := [(0, _), (1, _), (2, _), (3, _)]) [2, 3, 1, 0] rfl (ih _ _ _ _ h)
      · replace h := h.2 q7
        refine ra_iconst E dX13_countAt_24 ki_1 ?_
        refine ra_goto (tgt := 29) E dX13_countAt_25 (by decide) ?_
        refine ra_iadd E dX13_countAt_29 ?_
        refine ra_istore_n (L' := [(2, _), (0, _), (1, _), (3, _)]) E dX13_countAt_30 rfl (by decide) rfl ?_
        refine ra_iinc1 (L' := [(3, _), (2, _), (0, _), (1, _)]) E dX13_countAt_31 3 rfl (by decide) rfl ?_
        refine ra_goto (tgt := 4) E dX13_countAt_34 (by decide) ?_
        exact ra_sub (L' := [(0, _), (1, _), (2, _), (3, _)]) [2, 3, 1, 0] rfl (ih _ _ _ _ h)
def f_X13_countAt (p1 : Int32) (M : TM) (K : Int32 → TM → Prop) : Prop := ∃ n, f_X13_countAt_L4 p1 K n p1 (0 : Int32) (0 : Int32) M
set_option maxRecDepth 100000 in
set_option maxHeartbeats 4000000 in
theorem c_X13_countAt {ad : Nat → Nat} (p1 : Int32) (M : TM) (K : Int32 → TM → Prop) (h : f_X13_countAt p1 M K) : MI yX13_countAt cX13_countAt 4 (some .int) 3 ad [.ref (ad 699), .int p1] M K := by
  refine MI_of RX13 rfl (by decide +kernel) (Nat.le_of_ble_eq_true rfl) (fun p l e s m below meth c D tc E hr => ?_)
  unfold f_X13_countAt at h
  refine ra_iconst E dX13_countAt_0 ki_0 ?_
  refine ra_istore_n (L' := [(2, _), (0, _), (1, _)]) E dX13_countAt_1 rfl (by decide) rfl ?_
  refine ra_iconst E dX13_countAt_2 ki_0 ?_
  refine ra_istore_n (L' := [(3, _), (2, _), (0, _), (1, _)]) E dX13_countAt_3 rfl (by decide) rfl ?_
  obtain ⟨n8, h⟩ := h
  exact ra_sub (L' := [(0, _), (1, _), (2, _), (3, _)]) [2, 3, 1, 0] rfl (l_X13_countAt_L4 p1 E hr n8 _ _ _ _ h)
def f_X13_belongs (p1 : Int32) (p2 : Int32) (p3 : Int32) (M : TM) (K : Int32 → TM → Prop) : Prop := f_X13_isIn p1 p3 M (fun r2 M1 => ((r2 = 0 → K (0 : Int32) M1) ∧ (¬ r2 = 0 → f_X13_ofOrder p1 (5 : Int32) M1 (fun r6 M5 => ((¬ r6 = p2 → K (0 : Int32) M5) ∧ (r6 = p2 → K (1 : Int32) M5))))))
set_option maxRecDepth 100000 in
set_option maxHeartbeats 4000000 in
theorem c_X13_belongs {ad : Nat → Nat} (p1 : Int32) (p2 : Int32) (p3 : Int32) (M : TM) (K : Int32 → TM → Prop) (h : f_X13_belongs p1 p2 p3 M K) : MI yX13_belongs cX13_belongs 4 (some .boolean) 2 ad [.ref (ad 699), .int p1, .int p2, .int p3] M (fun r M' => (r = 0 ∨ r = 1) ∧ K r M') := by
  refine MI_of RX13 rfl (by decide +kernel) (Nat.le_of_ble_eq_true rfl) (fun p l e s m below meth c D tc E hr => ?_)
  unfold f_X13_belongs at h
  refine ra_aload_n E dX13_belongs_0 rfl 0 rfl ?_
  refine ra_iload_n E dX13_belongs_1 rfl 1 rfl ?_
  refine ra_iload_n E dX13_belongs_2 rfl 3 rfl ?_
  refine ra_callIV (rest := []) E (c_X13_isIn _ _ _ _ h) lq_13 cv_X13_isIn ml_X13_116 (by decide) (lmM (by decide)) (fun R => ⟨_, cel_699 tc ad R⟩) rfl rfl rfl (Nat.le_of_ble_eq_true rfl) ⟨Nat.le_of_ble_eq_true rfl, Nat.le_of_ble_eq_true rfl⟩ ⟨Nat.zero_le _, Nat.zero_le _⟩ dX13_belongs_3 (fun r2 M1 h => ?_)
  obtain ⟨b3, h⟩ := h
  refine ra_if_eq (tgt := 23) E dX13_belongs_6 (by decide) (fun q4 => ?_) (fun q4 => ?_)
  · replace h := h.1 q4
    refine ra_iconst E dX13_belongs_23 ki_0 ?_
    exact ra_zret E hr rfl dX13_belongs_24 ⟨Or.inl rfl, h⟩
  · replace h := h.2 q4
    refine ra_aload_n E dX13_belongs_9 rfl 0 rfl ?_
    refine ra_iload_n E dX13_belongs_10 rfl 1 rfl ?_
    refine ra_iconst E dX13_belongs_11 ki_5 ?_
    refine ra_callIV (rest := []) E (c_X13_ofOrder _ _ _ _ h) lq_13 cv_X13_ofOrder ml_X13_101 (by decide) (lmM (by decide)) (fun R => ⟨_, cel_699 tc ad R⟩) rfl rfl rfl (Nat.le_of_ble_eq_true rfl) ⟨Nat.le_of_ble_eq_true rfl, Nat.le_of_ble_eq_true rfl⟩ ⟨Nat.zero_le _, Nat.zero_le _⟩ dX13_belongs_12 (fun r6 M5 h => ?_)
    refine ra_iload_n E dX13_belongs_15 rfl 2 rfl ?_
    refine ra_icmp_ne (tgt := 23) E dX13_belongs_16 (by decide) (fun q7 => ?_) (fun q7 => ?_)
    · replace h := h.1 q7
      refine ra_iconst E dX13_belongs_23 ki_0 ?_
      exact ra_zret E hr rfl dX13_belongs_24 ⟨Or.inl rfl, h⟩
    · replace h := h.2 q7
      refine ra_iconst E dX13_belongs_19 ki_1 ?_
      refine ra_goto (tgt := 24) E dX13_belongs_20 (by decide) ?_
      exact ra_zret E hr rfl dX13_belongs_24 ⟨Or.inr rfl, h⟩
def f_X13_countOf_L5 (p1 : Int32) (p2 : Int32) (K : Int32 → TM → Prop) : Nat → Int32 → Int32 → Int32 → Int32 → TM → Prop
  | 0, _, _, _, _, _ => False
  | n + 1, x1, x2, x3, x4, M => vp_in (M 699 6) 2 ∧ vp_in (3 : Int32) 377 ∧ (((M (700 + (M 699 6).toNatClampNeg) (3 : Int32).toNatClampNeg) ≤ x4 → K x3 M) ∧ (¬ (M (700 + (M 699 6).toNatClampNeg) (3 : Int32).toNatClampNeg) ≤ x4 → f_X13_belongs x4 x1 x2 M (fun r5 M4 => ((r5 = 0 → f_X13_countOf_L5 p1 p2 K n x1 x2 (x3 + (0 : Int32)) (x4 + 1) M4) ∧ (¬ r5 = 0 → f_X13_countOf_L5 p1 p2 K n x1 x2 (x3 + (1 : Int32)) (x4 + 1) M4)))))
set_option maxRecDepth 100000 in
set_option maxHeartbeats 4000000 in
theorem l_X13_countOf_L5 {p : Program} {l : Launch} {e : Env} {s : State} {m : MethodId} {args : Array Value} {below : List Frame} {meth : Method} {c : Code} {D : va_G} {tc : Nat → ClassId} {ad : Nat → Nat} (p1 : Int32) (p2 : Int32) {K : Int32 → TM → Prop} (E : Ev p s m args meth c D tc ad RX13 cX13_countOf 5) (hr : meth.sig.returnType = (some .int)) : ∀ (n : Nat) (x1 : Int32) (x2 : Int32) (x3 : Int32) (x4 : Int32) (M : TM) , f_X13_countOf_L5 p1 p2 K n x1 x2 x3 x4 M → Wa p l e (rmD 3) s m args below meth c 0 0 (MQ below (va_Qi K (EndW D tc ad) (A0 ad s.heap.size)) args s 0 0 (A0 ad s.heap.size)) D tc ad 5 M 5 [(0, .ref (ad 699)), (1, .int x1), (2, .int x2), (3, .int x3), (4, .int x4)] [] := by
  intro n
  induction n with
  | zero => intro x1 x2 x3 x4 M  h; exact h.elim
  | succ n ih =>
    intro x1 x2 x3 x4 M  h
    unfold f_X13_countOf_L5 at h
    refine ra_iload E dX13_countOf_5 4 rfl ?_
    refine ra_aload_n E dX13_countOf_7 rfl 0 rfl ?_
    obtain ⟨g1, h⟩ := h
    refine gf_X13_6 E lm13 fl_X13_28 dX13_countOf_8 ?_
    refine ra_iconst E dX13_countOf_11 ki_3 ?_
    obtain ⟨g2, h⟩ := h
    refine ra_iald E (lmM (isRow_of g1).lt) (cel_row tc ad (isRow_of g1)) g2 dX13_countOf_12 ?_
    refine ra_icmp_ge (tgt := 41) E dX13_countOf_13 (by decide) (fun q3 => ?_) (fun q3 => ?_)
    · replace h := h.1 q3
      refine ra_iload_n E dX13_countOf_41 rfl 3 rfl ?_
      exact ra_iret E hr dX13_countOf_42 h
    · replace h := h.2 q3
      refine ra_iload_n E dX13_countOf_16 rfl 3 rfl ?_
      refine ra_aload_n E dX13_countOf_17 rfl 0 rfl ?_
      refine ra_iload E dX13_countOf_18 4 rfl ?_
      refine ra_iload_n E dX13_countOf_20 rfl 1 rfl ?_
      refine ra_iload_n E dX13_countOf_21 rfl 2 rfl ?_
      refine ra_callIV (rest := [_]) E (c_X13_belongs _ _ _ _ _ h) lq_13 cv_X13_belongs ml_X13_119 (by decide) (lmM (by decide)) (fun R => ⟨_, cel_699 tc ad R⟩) rfl rfl rfl (Nat.le_of_ble_eq_true rfl) ⟨Nat.le_of_ble_eq_true rfl, Nat.le_of_ble_eq_true rfl⟩ ⟨Nat.zero_le _, Nat.zero_le _⟩ dX13_countOf_22 (fun r5 M4 h => ?_)
      obtain ⟨b6, h⟩ := h
      refine ra_if_eq (tgt := 32) E dX13_countOf_25 (by decide) (fun q7 => ?_) (fun q7 => ?_)
      · replace h := h.1 q7
        refine ra_iconst E dX13_countOf_32 ki_0 ?_
        refine ra_iadd E dX13_countOf_33 ?_
        refine ra_istore_n (L' := [(3, _), (0, _), (1, _), (2, _), (4, _)]) E dX13_countOf_34 rfl (by decide) rfl ?_
        refine ra_iinc1 (L' := [(4, _), (3, _), (0, _), (1, _), (2, _)]) E dX13_countOf_35 4 rfl (by decide) rfl ?_
        refine ra_goto (tgt := 5) E dX13_countOf_38 (by decide) ?_
        exact ra_sub (L' := [(0, _), (1, _), (2, _), (3, _), (4, _)]) [2, 3, 4, 1, 0] rfl (ih _ _ _ _ _ h)
      · replace h := h.2 q7
        refine ra_iconst E dX13_countOf_28 ki_1 ?_
        refine ra_goto (tgt := 33) E dX13_countOf_29 (by decide) ?_
        refine ra_iadd E dX13_countOf_33 ?_
        refine ra_istore_n (L' := [(3, _), (0, _), (1, _), (2, _), (4, _)]) E dX13_countOf_34 rfl (by decide) rfl ?_
        refine ra_iinc1 (L' := [(4, _), (3, _), (0, _), (1, _), (2, _)]) E dX13_countOf_35 4 rfl (by decide) rfl ?_
        refine ra_goto (tgt := 5) E dX13_countOf_38 (by decide) ?_
        exact ra_sub (L' := [(0, _), (1, _), (2, _), (3, _), (4, _)]) [2, 3, 4, 1, 0] rfl (ih _ _ _ _ _ h)
def f_X13_countOf (p1 : Int32) (p2 : Int32) (M : TM) (K : Int32 → TM → Prop) : Prop := ∃ n, f_X13_countOf_L5 p1 p2 K n p1 p2 (0 : Int32) (0 : Int32) M
set_option maxRecDepth 100000 in
set_option maxHeartbeats 4000000 in
theorem c_X13_countOf {ad : Nat → Nat} (p1 : Int32) (p2 : Int32) (M : TM) (K : Int32 → TM → Prop) (h : f_X13_countOf p1 p2 M K) : MI yX13_countOf cX13_countOf 5 (some .int) 3 ad [.ref (ad 699), .int p1, .int p2] M K := by
  refine MI_of RX13 rfl (by decide +kernel) (Nat.le_of_ble_eq_true rfl) (fun p l e s m below meth c D tc E hr => ?_)
  unfold f_X13_countOf at h
  refine ra_iconst E dX13_countOf_0 ki_0 ?_
  refine ra_istore_n (L' := [(3, _), (0, _), (1, _), (2, _)]) E dX13_countOf_1 rfl (by decide) rfl ?_
  refine ra_iconst E dX13_countOf_2 ki_0 ?_
  refine ra_istore (L' := [(4, _), (3, _), (0, _), (1, _), (2, _)]) E dX13_countOf_3 (by decide) rfl ?_
  obtain ⟨n8, h⟩ := h
  exact ra_sub (L' := [(0, _), (1, _), (2, _), (3, _), (4, _)]) [2, 3, 4, 1, 0] rfl (l_X13_countOf_L5 p1 p2 E hr n8 _ _ _ _ _ h)
def f_X13_indexOf_L5 (p1 : Int32) (p2 : Int32) (K : Int32 → TM → Prop) : Nat → Int32 → Int32 → Int32 → Int32 → TM → Prop
  | 0, _, _, _, _, _ => False
  | n + 1, x1, x2, x3, x4, M => vp_in (M 699 6) 2 ∧ vp_in (3 : Int32) 377 ∧ (((M (700 + (M 699 6).toNatClampNeg) (3 : Int32).toNatClampNeg) ≤ x4 → K x3 M) ∧ (¬ (M (700 + (M 699 6).toNatClampNeg) (3 : Int32).toNatClampNeg) ≤ x4 → f_X13_belongs x4 x2 (1 : Int32) M (fun r5 M4 => ((r5 = 0 → f_X13_indexOf_L5 p1 p2 K n x1 x2 (x3 + (0 : Int32)) (x4 + 1) M4) ∧ (¬ r5 = 0 → f_X13_ofOrder x4 (8 : Int32) M4 (fun r9 M8 => f_X13_ofOrder x1 (8 : Int32) M8 (fun r11 M10 => ((r11 ≤ r9 → f_X13_indexOf_L5 p1 p2 K n x1 x2 (x3 + (0 : Int32)) (x4 + 1) M10) ∧ (¬ r11 ≤ r9 → f_X13_indexOf_L5 p1 p2 K n x1 x2 (x3 + (1 : Int32)) (x4 + 1) M10)))))))))
set_option maxRecDepth 100000 in
set_option maxHeartbeats 4000000 in
theorem l_X13_indexOf_L5 {p : Program} {l : Launch} {e : Env} {s : State} {m : MethodId} {args : Array Value} {below : List Frame} {meth : Method} {c : Code} {D : va_G} {tc : Nat → ClassId} {ad : Nat → Nat} (p1 : Int32) (p2 : Int32) {K : Int32 → TM → Prop} (E : Ev p s m args meth c D tc ad RX13 cX13_indexOf 5) (hr : meth.sig.returnType = (some .int)) : ∀ (n : Nat) (x1 : Int32) (x2 : Int32) (x3 : Int32) (x4 : Int32) (M : TM) , f_X13_indexOf_L5 p1 p2 K n x1 x2 x3 x4 M → Wa p l e (rmD 3) s m args below meth c 0 0 (MQ below (va_Qi K (EndW D tc ad) (A0 ad s.heap.size)) args s 0 0 (A0 ad s.heap.size)) D tc ad 5 M 5 [(0, .ref (ad 699)), (1, .int x1), (2, .int x2), (3, .int x3), (4, .int x4)] [] := by
  intro n
  induction n with
  | zero => intro x1 x2 x3 x4 M  h; exact h.elim
  | succ n ih =>
    intro x1 x2 x3 x4 M  h
    unfold f_X13_indexOf_L5 at h
    refine ra_iload E dX13_indexOf_5 4 rfl ?_
    refine ra_aload_n E dX13_indexOf_7 rfl 0 rfl ?_
    obtain ⟨g1, h⟩ := h
    refine gf_X13_6 E lm13 fl_X13_28 dX13_indexOf_8 ?_
    refine ra_iconst E dX13_indexOf_11 ki_3 ?_
    obtain ⟨g2, h⟩ := h
    refine ra_iald E (lmM (isRow_of g1).lt) (cel_row tc ad (isRow_of g1)) g2 dX13_indexOf_12 ?_
    refine ra_icmp_ge (tgt := 59) E dX13_indexOf_13 (by decide) (fun q3 => ?_) (fun q3 => ?_)
    · replace h := h.1 q3
      refine ra_iload_n E dX13_indexOf_59 rfl 3 rfl ?_
      exact ra_iret E hr dX13_indexOf_60 h
    · replace h := h.2 q3
      refine ra_iload_n E dX13_indexOf_16 rfl 3 rfl ?_
      refine ra_aload_n E dX13_indexOf_17 rfl 0 rfl ?_
      refine ra_iload E dX13_indexOf_18 4 rfl ?_
      refine ra_iload_n E dX13_indexOf_20 rfl 2 rfl ?_
      refine ra_iconst E dX13_indexOf_21 ki_1 ?_
      refine ra_callIV (rest := [_]) E (c_X13_belongs _ _ _ _ _ h) lq_13 cv_X13_belongs ml_X13_119 (by decide) (lmM (by decide)) (fun R => ⟨_, cel_699 tc ad R⟩) rfl rfl rfl (Nat.le_of_ble_eq_true rfl) ⟨Nat.le_of_ble_eq_true rfl, Nat.le_of_ble_eq_true rfl⟩ ⟨Nat.zero_le _, Nat.zero_le _⟩ dX13_indexOf_22 (fun r5 M4 h => ?_)
      obtain ⟨b6, h⟩ := h
      refine ra_if_eq (tgt := 50) E dX13_indexOf_25 (by decide) (fun q7 => ?_) (fun q7 => ?_)
      · replace h := h.1 q7
        refine ra_iconst E dX13_indexOf_50 ki_0 ?_
        refine ra_iadd E dX13_indexOf_51 ?_
        refine ra_istore_n (L' := [(3, _), (0, _), (1, _), (2, _), (4, _)]) E dX13_indexOf_52 rfl (by decide) rfl ?_
        refine ra_iinc1 (L' := [(4, _), (3, _), (0, _), (1, _), (2, _)]) E dX13_indexOf_53 4 rfl (by decide) rfl ?_
        refine ra_goto (tgt := 5) E dX13_indexOf_56 (by decide) ?_
        exact ra_sub (L' := [(0, _), (1, _), (2, _), (3, _), (4, _)]) [2, 3, 4, 1, 0] rfl (ih _ _ _ _ _ h)
      · replace h := h.2 q7
        refine ra_aload_n E dX13_indexOf_28 rfl 0 rfl ?_
        refine ra_iload E dX13_indexOf_29 4 rfl ?_
        refine ra_bipush E dX13_indexOf_31 kb_8 ?_
        refine ra_callIV (rest := [_]) E (c_X13_ofOrder _ _ _ _ h) lq_13 cv_X13_ofOrder ml_X13_101 (by decide) (lmM (by decide)) (fun R => ⟨_, cel_699 tc ad R⟩) rfl rfl rfl (Nat.le_of_ble_eq_true rfl) ⟨Nat.le_of_ble_eq_true rfl, Nat.le_of_ble_eq_true rfl⟩ ⟨Nat.zero_le _, Nat.zero_le _⟩ dX13_indexOf_33 (fun r9 M8 h => ?_)
        refine ra_aload_n E dX13_indexOf_36 rfl 0 rfl ?_
        refine ra_iload_n E dX13_indexOf_37 rfl 1 rfl ?_
        refine ra_bipush E dX13_indexOf_38 kb_8 ?_
        refine ra_callIV (rest := [_, _]) E (c_X13_ofOrder _ _ _ _ h) lq_13 cv_X13_ofOrder ml_X13_101 (by decide) (lmM (by decide)) (fun R => ⟨_, cel_699 tc ad R⟩) rfl rfl rfl (Nat.le_of_ble_eq_true rfl) ⟨Nat.le_of_ble_eq_true rfl, Nat.le_of_ble_eq_true rfl⟩ ⟨Nat.zero_le _, Nat.zero_le _⟩ dX13_indexOf_40 (fun r11 M10 h => ?_)
        refine ra_icmp_ge (tgt := 50) E dX13_indexOf_43 (by decide) (fun q12 => ?_) (fun q12 => ?_)
        · replace h := h.1 q12
          refine ra_iconst E dX13_indexOf_50 ki_0 ?_
          refine ra_iadd E dX13_indexOf_51 ?_
          refine ra_istore_n (L' := [(3, _), (0, _), (1, _), (2, _), (4, _)]) E dX13_indexOf_52 rfl (by decide) rfl ?_
          refine ra_iinc1 (L' := [(4, _), (3, _), (0, _), (1, _), (2, _)]) E dX13_indexOf_53 4 rfl (by decide) rfl ?_
          refine ra_goto (tgt := 5) E dX13_indexOf_56 (by decide) ?_
          exact ra_sub (L' := [(0, _), (1, _), (2, _), (3, _), (4, _)]) [2, 3, 4, 1, 0] rfl (ih _ _ _ _ _ h)
        · replace h := h.2 q12
          refine ra_iconst E dX13_indexOf_46 ki_1 ?_
          refine ra_goto (tgt := 51) E dX13_indexOf_47 (by decide) ?_
          refine ra_iadd E dX13_indexOf_51 ?_
          refine ra_istore_n (L' := [(3, _), (0, _), (1, _), (2, _), (4, _)]) E dX13_indexOf_52 rfl (by decide) rfl ?_
          refine ra_iinc1 (L' := [(4, _), (3, _), (0, _), (1, _), (2, _)]) E dX13_indexOf_53 4 rfl (by decide) rfl ?_
          refine ra_goto (tgt := 5) E dX13_indexOf_56 (by decide) ?_
          exact ra_sub (L' := [(0, _), (1, _), (2, _), (3, _), (4, _)]) [2, 3, 4, 1, 0] rfl (ih _ _ _ _ _ h)
def f_X13_indexOf (p1 : Int32) (p2 : Int32) (M : TM) (K : Int32 → TM → Prop) : Prop := ∃ n, f_X13_indexOf_L5 p1 p2 K n p1 p2 (0 : Int32) (0 : Int32) M
set_option maxRecDepth 100000 in
set_option maxHeartbeats 4000000 in
theorem c_X13_indexOf {ad : Nat → Nat} (p1 : Int32) (p2 : Int32) (M : TM) (K : Int32 → TM → Prop) (h : f_X13_indexOf p1 p2 M K) : MI yX13_indexOf cX13_indexOf 5 (some .int) 3 ad [.ref (ad 699), .int p1, .int p2] M K := by
  refine MI_of RX13 rfl (by decide +kernel) (Nat.le_of_ble_eq_true rfl) (fun p l e s m below meth c D tc E hr => ?_)
  unfold f_X13_indexOf at h
  refine ra_iconst E dX13_indexOf_0 ki_0 ?_
  refine ra_istore_n (L' := [(3, _), (0, _), (1, _), (2, _)]) E dX13_indexOf_1 rfl (by decide) rfl ?_
  refine ra_iconst E dX13_indexOf_2 ki_0 ?_
  refine ra_istore (L' := [(4, _), (3, _), (0, _), (1, _), (2, _)]) E dX13_indexOf_3 (by decide) rfl ?_
  obtain ⟨n13, h⟩ := h
  exact ra_sub (L' := [(0, _), (1, _), (2, _), (3, _), (4, _)]) [2, 3, 4, 1, 0] rfl (l_X13_indexOf_L5 p1 p2 E hr n13 _ _ _ _ _ h)
def f_X13_queued_L2 (p1 : Int32) (p2 : Int32) (K : Int32 → TM → Prop) : Nat → Int32 → Int32 → Int32 → TM → Prop
  | 0, _, _, _, _ => False
  | n + 1, x1, x2, x3, M => vp_in (M 699 6) 2 ∧ vp_in (3 : Int32) 377 ∧ (((M (700 + (M 699 6).toNatClampNeg) (3 : Int32).toNatClampNeg) ≤ x3 → K (-1 : Int32) M) ∧ (¬ (M (700 + (M 699 6).toNatClampNeg) (3 : Int32).toNatClampNeg) ≤ x3 → f_X13_belongs x3 x1 (1 : Int32) M (fun r5 M4 => ((r5 = 0 → f_X13_queued_L2 p1 p2 K n x1 x2 (x3 + 1) M4) ∧ (¬ r5 = 0 → f_X13_indexOf x3 x1 M4 (fun r9 M8 => ((¬ r9 = x2 → f_X13_queued_L2 p1 p2 K n x1 x2 (x3 + 1) M8) ∧ (r9 = x2 → K x3 M8))))))))
set_option maxRecDepth 100000 in
set_option maxHeartbeats 4000000 in
theorem l_X13_queued_L2 {p : Program} {l : Launch} {e : Env} {s : State} {m : MethodId} {args : Array Value} {below : List Frame} {meth : Method} {c : Code} {D : va_G} {tc : Nat → ClassId} {ad : Nat → Nat} (p1 : Int32) (p2 : Int32) {K : Int32 → TM → Prop} (E : Ev p s m args meth c D tc ad RX13 cX13_queued 4) (hr : meth.sig.returnType = (some .int)) : ∀ (n : Nat) (x1 : Int32) (x2 : Int32) (x3 : Int32) (M : TM) , f_X13_queued_L2 p1 p2 K n x1 x2 x3 M → Wa p l e (rmD 4) s m args below meth c 0 0 (MQ below (va_Qi K (EndW D tc ad) (A0 ad s.heap.size)) args s 0 0 (A0 ad s.heap.size)) D tc ad 4 M 2 [(0, .ref (ad 699)), (1, .int x1), (2, .int x2), (3, .int x3)] [] := by
  intro n
  induction n with
  | zero => intro x1 x2 x3 M  h; exact h.elim
  | succ n ih =>
    intro x1 x2 x3 M  h
    unfold f_X13_queued_L2 at h
    refine ra_iload_n E dX13_queued_2 rfl 3 rfl ?_
    refine ra_aload_n E dX13_queued_3 rfl 0 rfl ?_
    obtain ⟨g1, h⟩ := h
    refine gf_X13_6 E lm13 fl_X13_28 dX13_queued_4 ?_
    refine ra_iconst E dX13_queued_7 ki_3 ?_
    obtain ⟨g2, h⟩ := h
    refine ra_iald E (lmM (isRow_of g1).lt) (cel_row tc ad (isRow_of g1)) g2 dX13_queued_8 ?_
    refine ra_icmp_ge (tgt := 40) E dX13_queued_9 (by decide) (fun q3 => ?_) (fun q3 => ?_)
    · replace h := h.1 q3
      refine ra_iconst E dX13_queued_40 ki_m1 ?_
      exact ra_iret E hr dX13_queued_41 h
    · replace h := h.2 q3
      refine ra_aload_n E dX13_queued_12 rfl 0 rfl ?_
      refine ra_iload_n E dX13_queued_13 rfl 3 rfl ?_
      refine ra_iload_n E dX13_queued_14 rfl 1 rfl ?_
      refine ra_iconst E dX13_queued_15 ki_1 ?_
      refine ra_callIV (rest := []) E (c_X13_belongs _ _ _ _ _ h) lq_13 cv_X13_belongs ml_X13_119 (by decide) (lmM (by decide)) (fun R => ⟨_, cel_699 tc ad R⟩) rfl rfl rfl (Nat.le_of_ble_eq_true rfl) ⟨Nat.le_of_ble_eq_true rfl, Nat.le_of_ble_eq_true rfl⟩ ⟨Nat.zero_le _, Nat.zero_le _⟩ dX13_queued_16 (fun r5 M4 h => ?_)
      obtain ⟨b6, h⟩ := h
      refine ra_if_eq (tgt := 34) E dX13_queued_19 (by decide) (fun q7 => ?_) (fun q7 => ?_)
      · replace h := h.1 q7
        refine ra_iinc1 (L' := [(3, _), (0, _), (1, _), (2, _)]) E dX13_queued_34 3 rfl (by decide) rfl ?_
        refine ra_goto (tgt := 2) E dX13_queued_37 (by decide) ?_
        exact ra_sub (L' := [(0, _), (1, _), (2, _), (3, _)]) [1, 2, 3, 0] rfl (ih _ _ _ _ h)
      · replace h := h.2 q7
        refine ra_aload_n E dX13_queued_22 rfl 0 rfl ?_
        refine ra_iload_n E dX13_queued_23 rfl 3 rfl ?_
        refine ra_iload_n E dX13_queued_24 rfl 1 rfl ?_
        refine ra_callIV (rest := []) E (c_X13_indexOf _ _ _ _ h) lq_13 cv_X13_indexOf ml_X13_122 (by decide) (lmM (by decide)) (fun R => ⟨_, cel_699 tc ad R⟩) rfl rfl rfl (Nat.le_of_ble_eq_true rfl) ⟨Nat.le_of_ble_eq_true rfl, Nat.le_of_ble_eq_true rfl⟩ ⟨Nat.zero_le _, Nat.zero_le _⟩ dX13_queued_25 (fun r9 M8 h => ?_)
        refine ra_iload_n E dX13_queued_28 rfl 2 rfl ?_
        refine ra_icmp_ne (tgt := 34) E dX13_queued_29 (by decide) (fun q10 => ?_) (fun q10 => ?_)
        · replace h := h.1 q10
          refine ra_iinc1 (L' := [(3, _), (0, _), (1, _), (2, _)]) E dX13_queued_34 3 rfl (by decide) rfl ?_
          refine ra_goto (tgt := 2) E dX13_queued_37 (by decide) ?_
          exact ra_sub (L' := [(0, _), (1, _), (2, _), (3, _)]) [1, 2, 3, 0] rfl (ih _ _ _ _ h)
        · replace h := h.2 q10
          refine ra_iload_n E dX13_queued_32 rfl 3 rfl ?_
          exact ra_iret E hr dX13_queued_33 h
def f_X13_queued (p1 : Int32) (p2 : Int32) (M : TM) (K : Int32 → TM → Prop) : Prop := ∃ n, f_X13_queued_L2 p1 p2 K n p1 p2 (0 : Int32) M
set_option maxRecDepth 100000 in
set_option maxHeartbeats 4000000 in
theorem c_X13_queued {ad : Nat → Nat} (p1 : Int32) (p2 : Int32) (M : TM) (K : Int32 → TM → Prop) (h : f_X13_queued p1 p2 M K) : MI yX13_queued cX13_queued 4 (some .int) 4 ad [.ref (ad 699), .int p1, .int p2] M K := by
  refine MI_of RX13 rfl (by decide +kernel) (Nat.le_of_ble_eq_true rfl) (fun p l e s m below meth c D tc E hr => ?_)
  unfold f_X13_queued at h
  refine ra_iconst E dX13_queued_0 ki_0 ?_
  refine ra_istore_n (L' := [(3, _), (0, _), (1, _), (2, _)]) E dX13_queued_1 rfl (by decide) rfl ?_
  obtain ⟨n11, h⟩ := h
  exact ra_sub (L' := [(0, _), (1, _), (2, _), (3, _)]) [1, 2, 3, 0] rfl (l_X13_queued_L2 p1 p2 E hr n11 _ _ _ _ h)
def f_X13_priceOf (p1 : Int32) (M : TM) (K : Int32 → TM → Prop) : Prop := f_X13_ofOrder p1 (1 : Int32) M (fun r2 M1 => f_X13_ofOrder p1 (2 : Int32) M1 (fun r4 M3 => K (r2 * ((3 : Int32) + r4)) M3))
set_option maxRecDepth 100000 in
set_option maxHeartbeats 4000000 in
theorem c_X13_priceOf {ad : Nat → Nat} (p1 : Int32) (M : TM) (K : Int32 → TM → Prop) (h : f_X13_priceOf p1 M K) : MI yX13_priceOf cX13_priceOf 2 (some .int) 1 ad [.ref (ad 699), .int p1] M K := by
  refine MI_of RX13 rfl (by decide +kernel) (Nat.le_of_ble_eq_true rfl) (fun p l e s m below meth c D tc E hr => ?_)
  unfold f_X13_priceOf at h
  refine ra_aload_n E dX13_priceOf_0 rfl 0 rfl ?_
  refine ra_iload_n E dX13_priceOf_1 rfl 1 rfl ?_
  refine ra_iconst E dX13_priceOf_2 ki_1 ?_
  refine ra_callIV (rest := []) E (c_X13_ofOrder _ _ _ _ h) lq_13 cv_X13_ofOrder ml_X13_101 (by decide) (lmM (by decide)) (fun R => ⟨_, cel_699 tc ad R⟩) rfl rfl rfl (Nat.le_of_ble_eq_true rfl) ⟨Nat.le_of_ble_eq_true rfl, Nat.le_of_ble_eq_true rfl⟩ ⟨Nat.zero_le _, Nat.zero_le _⟩ dX13_priceOf_3 (fun r2 M1 h => ?_)
  refine ra_iconst E dX13_priceOf_6 ki_3 ?_
  refine ra_aload_n E dX13_priceOf_7 rfl 0 rfl ?_
  refine ra_iload_n E dX13_priceOf_8 rfl 1 rfl ?_
  refine ra_iconst E dX13_priceOf_9 ki_2 ?_
  refine ra_callIV (rest := [_, _]) E (c_X13_ofOrder _ _ _ _ h) lq_13 cv_X13_ofOrder ml_X13_101 (by decide) (lmM (by decide)) (fun R => ⟨_, cel_699 tc ad R⟩) rfl rfl rfl (Nat.le_of_ble_eq_true rfl) ⟨Nat.le_of_ble_eq_true rfl, Nat.le_of_ble_eq_true rfl⟩ ⟨Nat.zero_le _, Nat.zero_le _⟩ dX13_priceOf_10 (fun r4 M3 h => ?_)
  refine ra_iadd E dX13_priceOf_13 ?_
  refine ra_imul E dX13_priceOf_14 ?_
  exact ra_iret E hr dX13_priceOf_15 h
def f_X13_isAlive (p1 : Int32) (M : TM) (K : Int32 → TM → Prop) : Prop := f_X13_ofOrder p1 (4 : Int32) M (fun r2 M1 => (((2 : Int32) < r2 → K (0 : Int32) M1) ∧ (¬ (2 : Int32) < r2 → K (1 : Int32) M1)))
set_option maxRecDepth 100000 in
set_option maxHeartbeats 4000000 in
theorem c_X13_isAlive {ad : Nat → Nat} (p1 : Int32) (M : TM) (K : Int32 → TM → Prop) (h : f_X13_isAlive p1 M K) : MI yX13_isAlive cX13_isAlive 2 (some .boolean) 1 ad [.ref (ad 699), .int p1] M (fun r M' => (r = 0 ∨ r = 1) ∧ K r M') := by
  refine MI_of RX13 rfl (by decide +kernel) (Nat.le_of_ble_eq_true rfl) (fun p l e s m below meth c D tc E hr => ?_)
  unfold f_X13_isAlive at h
  refine ra_aload_n E dX13_isAlive_0 rfl 0 rfl ?_
  refine ra_iload_n E dX13_isAlive_1 rfl 1 rfl ?_
  refine ra_iconst E dX13_isAlive_2 ki_4 ?_
  refine ra_callIV (rest := []) E (c_X13_ofOrder _ _ _ _ h) lq_13 cv_X13_ofOrder ml_X13_101 (by decide) (lmM (by decide)) (fun R => ⟨_, cel_699 tc ad R⟩) rfl rfl rfl (Nat.le_of_ble_eq_true rfl) ⟨Nat.le_of_ble_eq_true rfl, Nat.le_of_ble_eq_true rfl⟩ ⟨Nat.zero_le _, Nat.zero_le _⟩ dX13_isAlive_3 (fun r2 M1 h => ?_)
  refine ra_iconst E dX13_isAlive_6 ki_2 ?_
  refine ra_icmp_gt (tgt := 14) E dX13_isAlive_7 (by decide) (fun q3 => ?_) (fun q3 => ?_)
  · replace h := h.1 q3
    refine ra_iconst E dX13_isAlive_14 ki_0 ?_
    exact ra_zret E hr rfl dX13_isAlive_15 ⟨Or.inl rfl, h⟩
  · replace h := h.2 q3
    refine ra_iconst E dX13_isAlive_10 ki_1 ?_
    refine ra_goto (tgt := 15) E dX13_isAlive_11 (by decide) ?_
    exact ra_zret E hr rfl dX13_isAlive_15 ⟨Or.inr rfl, h⟩
def f_X13_minute  (M : TM) (K : Int32 → TM → Prop) : Prop := ∀ M1, M1 = u2 M 699 8 (0 : Int32) → vp_in (M1 699 6) 2 ∧ vp_in (0 : Int32) 377 ∧ K (M1 (700 + (M1 699 6).toNatClampNeg) (0 : Int32).toNatClampNeg) M1
set_option maxRecDepth 100000 in
set_option maxHeartbeats 4000000 in
theorem c_X13_minute {ad : Nat → Nat}  (M : TM) (K : Int32 → TM → Prop) (h : f_X13_minute  M K) : MI yX13_minute cX13_minute 1 (some .int) 0 ad [.ref (ad 699)] M K := by
  refine MI_of RX13 rfl (by decide +kernel) (Nat.le_of_ble_eq_true rfl) (fun p l e s m below meth c D tc E hr => ?_)
  unfold f_X13_minute at h
  refine ra_aload_n E dX13_minute_0 rfl 0 rfl ?_
  refine ra_iconst E dX13_minute_1 ki_0 ?_
  refine pf_X13_8 E lm13 fl_X13_79 dX13_minute_2 ?_
  replace h := h _ rfl
  refine ra_aload_n E dX13_minute_5 rfl 0 rfl ?_
  obtain ⟨g2, h⟩ := h
  refine gf_X13_6 E lm13 fl_X13_28 dX13_minute_6 ?_
  refine ra_iconst E dX13_minute_9 ki_0 ?_
  obtain ⟨g3, h⟩ := h
  refine ra_iald E (lmM (isRow_of g2).lt) (cel_row tc ad (isRow_of g2)) g3 dX13_minute_10 ?_
  exact ra_iret E hr dX13_minute_11 h
def f_X13_placeCount  (M : TM) (K : Int32 → TM → Prop) : Prop := ∀ M1, M1 = u2 M 699 8 (0 : Int32) → vp_in (M1 699 6) 2 ∧ vp_in (1 : Int32) 377 ∧ K (M1 (700 + (M1 699 6).toNatClampNeg) (1 : Int32).toNatClampNeg) M1
set_option maxRecDepth 100000 in
set_option maxHeartbeats 4000000 in
theorem c_X13_placeCount {ad : Nat → Nat}  (M : TM) (K : Int32 → TM → Prop) (h : f_X13_placeCount  M K) : MI yX13_placeCount cX13_placeCount 1 (some .int) 0 ad [.ref (ad 699)] M K := by
  refine MI_of RX13 rfl (by decide +kernel) (Nat.le_of_ble_eq_true rfl) (fun p l e s m below meth c D tc E hr => ?_)
  unfold f_X13_placeCount at h
  refine ra_aload_n E dX13_placeCount_0 rfl 0 rfl ?_
  refine ra_iconst E dX13_placeCount_1 ki_0 ?_
  refine pf_X13_8 E lm13 fl_X13_79 dX13_placeCount_2 ?_
  replace h := h _ rfl
  refine ra_aload_n E dX13_placeCount_5 rfl 0 rfl ?_
  obtain ⟨g2, h⟩ := h
  refine gf_X13_6 E lm13 fl_X13_28 dX13_placeCount_6 ?_
  refine ra_iconst E dX13_placeCount_9 ki_1 ?_
  obtain ⟨g3, h⟩ := h
  refine ra_iald E (lmM (isRow_of g2).lt) (cel_row tc ad (isRow_of g2)) g3 dX13_placeCount_10 ?_
  exact ra_iret E hr dX13_placeCount_11 h
def f_X13_lockWait (p1 : Int32) (M : TM) (K : Int32 → TM → Prop) : Prop := f_X13_isSection p1 M (fun r2 M1 => f_X13_lacks r2 M1 (fun r5 M4 => ((r5 = 0 → vp_in (M4 699 6) 2 ∧ vp_in ((10 : Int32) + p1) 377 ∧ K (M4 (700 + (M4 699 6).toNatClampNeg) ((10 : Int32) + p1).toNatClampNeg) M4) ∧ (¬ r5 = 0 → K (0 : Int32) M4))))
set_option maxRecDepth 100000 in
set_option maxHeartbeats 4000000 in
theorem c_X13_lockWait {ad : Nat → Nat} (p1 : Int32) (M : TM) (K : Int32 → TM → Prop) (h : f_X13_lockWait p1 M K) : MI yX13_lockWait cX13_lockWait 2 (some .int) 2 ad [.ref (ad 699), .int p1] M K := by
  refine MI_of RX13 rfl (by decide +kernel) (Nat.le_of_ble_eq_true rfl) (fun p l e s m below meth c D tc E hr => ?_)
  unfold f_X13_lockWait at h
  refine ra_aload_n E dX13_lockWait_0 rfl 0 rfl ?_
  refine ra_aload_n E dX13_lockWait_1 rfl 0 rfl ?_
  refine ra_iload_n E dX13_lockWait_2 rfl 1 rfl ?_
  refine ra_callIV (rest := [_]) E (c_X13_isSection _ _ _ h) lq_13 cv_X13_isSection ml_X13_125 (by decide) (lmM (by decide)) (fun R => ⟨_, cel_699 tc ad R⟩) rfl rfl rfl (Nat.le_of_ble_eq_true rfl) ⟨Nat.le_of_ble_eq_true rfl, Nat.le_of_ble_eq_true rfl⟩ ⟨Nat.zero_le _, Nat.zero_le _⟩ dX13_lockWait_3 (fun r2 M1 h => ?_)
  obtain ⟨b3, h⟩ := h
  refine ra_callIV (rest := []) E (c_X13_lacks _ _ _ h) lq_13 cv_X13_lacks ml_X13_82 (by decide) (lmM (by decide)) (fun R => ⟨_, cel_699 tc ad R⟩) rfl rfl rfl (Nat.le_of_ble_eq_true rfl) ⟨Nat.le_of_ble_eq_true rfl, Nat.le_of_ble_eq_true rfl⟩ ⟨Nat.zero_le _, Nat.zero_le _⟩ dX13_lockWait_6 (fun r5 M4 h => ?_)
  obtain ⟨b6, h⟩ := h
  refine ra_if_eq (tgt := 16) E dX13_lockWait_9 (by decide) (fun q7 => ?_) (fun q7 => ?_)
  · replace h := h.1 q7
    refine ra_aload_n E dX13_lockWait_16 rfl 0 rfl ?_
    obtain ⟨g8, h⟩ := h
    refine gf_X13_6 E lm13 fl_X13_28 dX13_lockWait_17 ?_
    refine ra_bipush E dX13_lockWait_20 kb_10 ?_
    refine ra_iload_n E dX13_lockWait_22 rfl 1 rfl ?_
    refine ra_iadd E dX13_lockWait_23 ?_
    obtain ⟨g9, h⟩ := h
    refine ra_iald E (lmM (isRow_of g8).lt) (cel_row tc ad (isRow_of g8)) g9 dX13_lockWait_24 ?_
    exact ra_iret E hr dX13_lockWait_25 h
  · replace h := h.2 q7
    refine ra_iconst E dX13_lockWait_12 ki_0 ?_
    refine ra_goto (tgt := 25) E dX13_lockWait_13 (by decide) ?_
    exact ra_iret E hr dX13_lockWait_25 h
def f_X13_clearance (p1 : Int32) (M : TM) (K : Int32 → TM → Prop) : Prop := f_X13_isSection p1 M (fun r2 M1 => f_X13_lacks r2 M1 (fun r5 M4 => ((r5 = 0 → vp_in (M4 699 6) 2 ∧ vp_in ((25 : Int32) + p1) 377 ∧ K (M4 (700 + (M4 699 6).toNatClampNeg) ((25 : Int32) + p1).toNatClampNeg) M4) ∧ (¬ r5 = 0 → K (0 : Int32) M4))))
set_option maxRecDepth 100000 in
set_option maxHeartbeats 4000000 in
theorem c_X13_clearance {ad : Nat → Nat} (p1 : Int32) (M : TM) (K : Int32 → TM → Prop) (h : f_X13_clearance p1 M K) : MI yX13_clearance cX13_clearance 2 (some .int) 2 ad [.ref (ad 699), .int p1] M K := by
  refine MI_of RX13 rfl (by decide +kernel) (Nat.le_of_ble_eq_true rfl) (fun p l e s m below meth c D tc E hr => ?_)
  unfold f_X13_clearance at h
  refine ra_aload_n E dX13_clearance_0 rfl 0 rfl ?_
  refine ra_aload_n E dX13_clearance_1 rfl 0 rfl ?_
  refine ra_iload_n E dX13_clearance_2 rfl 1 rfl ?_
  refine ra_callIV (rest := [_]) E (c_X13_isSection _ _ _ h) lq_13 cv_X13_isSection ml_X13_125 (by decide) (lmM (by decide)) (fun R => ⟨_, cel_699 tc ad R⟩) rfl rfl rfl (Nat.le_of_ble_eq_true rfl) ⟨Nat.le_of_ble_eq_true rfl, Nat.le_of_ble_eq_true rfl⟩ ⟨Nat.zero_le _, Nat.zero_le _⟩ dX13_clearance_3 (fun r2 M1 h => ?_)
  obtain ⟨b3, h⟩ := h
  refine ra_callIV (rest := []) E (c_X13_lacks _ _ _ h) lq_13 cv_X13_lacks ml_X13_82 (by decide) (lmM (by decide)) (fun R => ⟨_, cel_699 tc ad R⟩) rfl rfl rfl (Nat.le_of_ble_eq_true rfl) ⟨Nat.le_of_ble_eq_true rfl, Nat.le_of_ble_eq_true rfl⟩ ⟨Nat.zero_le _, Nat.zero_le _⟩ dX13_clearance_6 (fun r5 M4 h => ?_)
  obtain ⟨b6, h⟩ := h
  refine ra_if_eq (tgt := 16) E dX13_clearance_9 (by decide) (fun q7 => ?_) (fun q7 => ?_)
  · replace h := h.1 q7
    refine ra_aload_n E dX13_clearance_16 rfl 0 rfl ?_
    obtain ⟨g8, h⟩ := h
    refine gf_X13_6 E lm13 fl_X13_28 dX13_clearance_17 ?_
    refine ra_bipush E dX13_clearance_20 kb_25 ?_
    refine ra_iload_n E dX13_clearance_22 rfl 1 rfl ?_
    refine ra_iadd E dX13_clearance_23 ?_
    obtain ⟨g9, h⟩ := h
    refine ra_iald E (lmM (isRow_of g8).lt) (cel_row tc ad (isRow_of g8)) g9 dX13_clearance_24 ?_
    exact ra_iret E hr dX13_clearance_25 h
  · replace h := h.2 q7
    refine ra_iconst E dX13_clearance_12 ki_0 ?_
    refine ra_goto (tgt := 25) E dX13_clearance_13 (by decide) ?_
    exact ra_iret E hr dX13_clearance_25 h
def f_X13_bargeInLock (p1 : Int32) (M : TM) (K : Int32 → TM → Prop) : Prop := f_X13_isSection p1 M (fun r2 M1 => f_X13_lacks r2 M1 (fun r5 M4 => ((r5 = 0 → f_X13_whoIsIn p1 M4 (fun r9 M8 => K r9 M8)) ∧ (¬ r5 = 0 → K (0 : Int32) M4))))
set_option maxRecDepth 100000 in
set_option maxHeartbeats 4000000 in
theorem c_X13_bargeInLock {ad : Nat → Nat} (p1 : Int32) (M : TM) (K : Int32 → TM → Prop) (h : f_X13_bargeInLock p1 M K) : MI yX13_bargeInLock cX13_bargeInLock 2 (some .int) 3 ad [.ref (ad 699), .int p1] M K := by
  refine MI_of RX13 rfl (by decide +kernel) (Nat.le_of_ble_eq_true rfl) (fun p l e s m below meth c D tc E hr => ?_)
  unfold f_X13_bargeInLock at h
  refine ra_aload_n E dX13_bargeInLock_0 rfl 0 rfl ?_
  refine ra_aload_n E dX13_bargeInLock_1 rfl 0 rfl ?_
  refine ra_iload_n E dX13_bargeInLock_2 rfl 1 rfl ?_
  refine ra_callIV (rest := [_]) E (c_X13_isSection _ _ _ h) lq_13 cv_X13_isSection ml_X13_125 (by decide) (lmM (by decide)) (fun R => ⟨_, cel_699 tc ad R⟩) rfl rfl rfl (Nat.le_of_ble_eq_true rfl) ⟨Nat.le_of_ble_eq_true rfl, Nat.le_of_ble_eq_true rfl⟩ ⟨Nat.zero_le _, Nat.zero_le _⟩ dX13_bargeInLock_3 (fun r2 M1 h => ?_)
  obtain ⟨b3, h⟩ := h
  refine ra_callIV (rest := []) E (c_X13_lacks _ _ _ h) lq_13 cv_X13_lacks ml_X13_82 (by decide) (lmM (by decide)) (fun R => ⟨_, cel_699 tc ad R⟩) rfl rfl rfl (Nat.le_of_ble_eq_true rfl) ⟨Nat.le_of_ble_eq_true rfl, Nat.le_of_ble_eq_true rfl⟩ ⟨Nat.zero_le _, Nat.zero_le _⟩ dX13_bargeInLock_6 (fun r5 M4 h => ?_)
  obtain ⟨b6, h⟩ := h
  refine ra_if_eq (tgt := 16) E dX13_bargeInLock_9 (by decide) (fun q7 => ?_) (fun q7 => ?_)
  · replace h := h.1 q7
    refine ra_aload_n E dX13_bargeInLock_16 rfl 0 rfl ?_
    refine ra_iload_n E dX13_bargeInLock_17 rfl 1 rfl ?_
    refine ra_callIV (rest := []) E (c_X13_whoIsIn _ _ _ h) lq_13 cv_X13_whoIsIn ml_X13_128 (by decide) (lmM (by decide)) (fun R => ⟨_, cel_699 tc ad R⟩) rfl rfl rfl (Nat.le_of_ble_eq_true rfl) ⟨Nat.le_of_ble_eq_true rfl, Nat.le_of_ble_eq_true rfl⟩ ⟨Nat.zero_le _, Nat.zero_le _⟩ dX13_bargeInLock_18 (fun r9 M8 h => ?_)
    exact ra_iret E hr dX13_bargeInLock_21 h
  · replace h := h.2 q7
    refine ra_iconst E dX13_bargeInLock_12 ki_0 ?_
    refine ra_goto (tgt := 21) E dX13_bargeInLock_13 (by decide) ?_
    exact ra_iret E hr dX13_bargeInLock_21 h
def f_X13_usedPairs (p1 : Int32) (M : TM) (K : Int32 → TM → Prop) : Prop := f_X13_isPlace p1 M (fun r2 M1 => f_X13_lacks r2 M1 (fun r5 M4 => ((r5 = 0 → vp_in (M4 699 6) 2 ∧ vp_in ((40 : Int32) + p1) 377 ∧ K (M4 (700 + (M4 699 6).toNatClampNeg) ((40 : Int32) + p1).toNatClampNeg) M4) ∧ (¬ r5 = 0 → K (0 : Int32) M4))))
set_option maxRecDepth 100000 in
set_option maxHeartbeats 4000000 in
theorem c_X13_usedPairs {ad : Nat → Nat} (p1 : Int32) (M : TM) (K : Int32 → TM → Prop) (h : f_X13_usedPairs p1 M K) : MI yX13_usedPairs cX13_usedPairs 2 (some .int) 2 ad [.ref (ad 699), .int p1] M K := by
  refine MI_of RX13 rfl (by decide +kernel) (Nat.le_of_ble_eq_true rfl) (fun p l e s m below meth c D tc E hr => ?_)
  unfold f_X13_usedPairs at h
  refine ra_aload_n E dX13_usedPairs_0 rfl 0 rfl ?_
  refine ra_aload_n E dX13_usedPairs_1 rfl 0 rfl ?_
  refine ra_iload_n E dX13_usedPairs_2 rfl 1 rfl ?_
  refine ra_callIV (rest := [_]) E (c_X13_isPlace _ _ _ h) lq_13 cv_X13_isPlace ml_X13_131 (by decide) (lmM (by decide)) (fun R => ⟨_, cel_699 tc ad R⟩) rfl rfl rfl (Nat.le_of_ble_eq_true rfl) ⟨Nat.le_of_ble_eq_true rfl, Nat.le_of_ble_eq_true rfl⟩ ⟨Nat.zero_le _, Nat.zero_le _⟩ dX13_usedPairs_3 (fun r2 M1 h => ?_)
  obtain ⟨b3, h⟩ := h
  refine ra_callIV (rest := []) E (c_X13_lacks _ _ _ h) lq_13 cv_X13_lacks ml_X13_82 (by decide) (lmM (by decide)) (fun R => ⟨_, cel_699 tc ad R⟩) rfl rfl rfl (Nat.le_of_ble_eq_true rfl) ⟨Nat.le_of_ble_eq_true rfl, Nat.le_of_ble_eq_true rfl⟩ ⟨Nat.zero_le _, Nat.zero_le _⟩ dX13_usedPairs_6 (fun r5 M4 h => ?_)
  obtain ⟨b6, h⟩ := h
  refine ra_if_eq (tgt := 16) E dX13_usedPairs_9 (by decide) (fun q7 => ?_) (fun q7 => ?_)
  · replace h := h.1 q7
    refine ra_aload_n E dX13_usedPairs_16 rfl 0 rfl ?_
    obtain ⟨g8, h⟩ := h
    refine gf_X13_6 E lm13 fl_X13_28 dX13_usedPairs_17 ?_
    refine ra_bipush E dX13_usedPairs_20 kb_40 ?_
    refine ra_iload_n E dX13_usedPairs_22 rfl 1 rfl ?_
    refine ra_iadd E dX13_usedPairs_23 ?_
    obtain ⟨g9, h⟩ := h
    refine ra_iald E (lmM (isRow_of g8).lt) (cel_row tc ad (isRow_of g8)) g9 dX13_usedPairs_24 ?_
    exact ra_iret E hr dX13_usedPairs_25 h
  · replace h := h.2 q7
    refine ra_iconst E dX13_usedPairs_12 ki_0 ?_
    refine ra_goto (tgt := 25) E dX13_usedPairs_13 (by decide) ?_
    exact ra_iret E hr dX13_usedPairs_25 h
def f_X13_bargesAt (p1 : Int32) (M : TM) (K : Int32 → TM → Prop) : Prop := f_X13_isPlace p1 M (fun r2 M1 => f_X13_lacks r2 M1 (fun r5 M4 => ((r5 = 0 → f_X13_countAt p1 M4 (fun r9 M8 => K r9 M8)) ∧ (¬ r5 = 0 → K (0 : Int32) M4))))
set_option maxRecDepth 100000 in
set_option maxHeartbeats 4000000 in
theorem c_X13_bargesAt {ad : Nat → Nat} (p1 : Int32) (M : TM) (K : Int32 → TM → Prop) (h : f_X13_bargesAt p1 M K) : MI yX13_bargesAt cX13_bargesAt 2 (some .int) 4 ad [.ref (ad 699), .int p1] M K := by
  refine MI_of RX13 rfl (by decide +kernel) (Nat.le_of_ble_eq_true rfl) (fun p l e s m below meth c D tc E hr => ?_)
  unfold f_X13_bargesAt at h
  refine ra_aload_n E dX13_bargesAt_0 rfl 0 rfl ?_
  refine ra_aload_n E dX13_bargesAt_1 rfl 0 rfl ?_
  refine ra_iload_n E dX13_bargesAt_2 rfl 1 rfl ?_
  refine ra_callIV (rest := [_]) E (c_X13_isPlace _ _ _ h) lq_13 cv_X13_isPlace ml_X13_131 (by decide) (lmM (by decide)) (fun R => ⟨_, cel_699 tc ad R⟩) rfl rfl rfl (Nat.le_of_ble_eq_true rfl) ⟨Nat.le_of_ble_eq_true rfl, Nat.le_of_ble_eq_true rfl⟩ ⟨Nat.zero_le _, Nat.zero_le _⟩ dX13_bargesAt_3 (fun r2 M1 h => ?_)
  obtain ⟨b3, h⟩ := h
  refine ra_callIV (rest := []) E (c_X13_lacks _ _ _ h) lq_13 cv_X13_lacks ml_X13_82 (by decide) (lmM (by decide)) (fun R => ⟨_, cel_699 tc ad R⟩) rfl rfl rfl (Nat.le_of_ble_eq_true rfl) ⟨Nat.le_of_ble_eq_true rfl, Nat.le_of_ble_eq_true rfl⟩ ⟨Nat.zero_le _, Nat.zero_le _⟩ dX13_bargesAt_6 (fun r5 M4 h => ?_)
  obtain ⟨b6, h⟩ := h
  refine ra_if_eq (tgt := 16) E dX13_bargesAt_9 (by decide) (fun q7 => ?_) (fun q7 => ?_)
  · replace h := h.1 q7
    refine ra_aload_n E dX13_bargesAt_16 rfl 0 rfl ?_
    refine ra_iload_n E dX13_bargesAt_17 rfl 1 rfl ?_
    refine ra_callIV (rest := []) E (c_X13_countAt _ _ _ h) lq_13 cv_X13_countAt ml_X13_134 (by decide) (lmM (by decide)) (fun R => ⟨_, cel_699 tc ad R⟩) rfl rfl rfl (Nat.le_of_ble_eq_true rfl) ⟨Nat.le_of_ble_eq_true rfl, Nat.le_of_ble_eq_true rfl⟩ ⟨Nat.zero_le _, Nat.zero_le _⟩ dX13_bargesAt_18 (fun r9 M8 h => ?_)
    exact ra_iret E hr dX13_bargesAt_21 h
  · replace h := h.2 q7
    refine ra_iconst E dX13_bargesAt_12 ki_0 ?_
    refine ra_goto (tgt := 21) E dX13_bargesAt_13 (by decide) ?_
    exact ra_iret E hr dX13_bargesAt_21 h
