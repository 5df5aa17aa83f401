def f_X12_isReady (p1 : Int32) (M : TM) (K : Int32 → TM → Prop) : Prop := f_X12_orderAt p1 M (fun o2 M1 => (∃ x3, IsOrder x3 ∧ o2 = some x3) ∧ (∀ x3, IsOrder x3 → o2 = some x3 → vp_in (M1 x3 6) 5 ∧ ((¬ (M1 x3 6) = (2 : Int32) → K (0 : Int32) M1) ∧ ((M1 x3 6) = (2 : Int32) → K (1 : Int32) M1))))
set_option maxRecDepth 100000 in
set_option maxHeartbeats 4000000 in
theorem c_X12_isReady {ad : Nat → Nat} (p1 : Int32) (M : TM) (K : Int32 → TM → Prop) (h : f_X12_isReady p1 M K) : MI yX12_isReady cX12_isReady 2 (some .boolean) 3 ad [.ref (ad 0), .int p1] M (fun r M' => (r = 0 ∨ r = 1) ∧ K r M') := by
  refine MI_of RX12 rfl (by decide +kernel) (Nat.le_of_ble_eq_true rfl) (fun p l e s m below meth c D tc E hr => ?_)
  unfold f_X12_isReady at h
  refine ra_aload_n E dX12_isReady_0 rfl 0 rfl ?_
  refine ra_iload_n E dX12_isReady_1 rfl 1 rfl ?_
  refine ra_callAV (rest := []) E (c_X12_orderAt _ _ _ h) (lq_X12 _) cv_X12_orderAt ml_X12_190 (by decide) (lm (by decide)) (fun R => ⟨_, cel_0 tc ad R⟩) rfl rfl rfl (Nat.le_of_ble_eq_true rfl) ⟨Nat.le_of_ble_eq_true rfl, Nat.le_of_ble_eq_true rfl⟩ ⟨Nat.zero_le _, Nat.zero_le _⟩ dX12_isReady_2 (fun o2 M1 h => ?_)
  obtain ⟨q5, q7⟩ := h
  obtain ⟨x3, g4, q5⟩ := q5
  replace h := q7 x3 g4 q5
  subst q5
  refine gf_X6_6 E g4 fl_X12_212 dX12_isReady_5 ?_
  refine gs_O (i := 2) E 2 (by decide) rfl (by decide) fl_X12_221 dX12_isReady_8 ?_
  obtain ⟨g9, h⟩ := h
  refine acmpO_ne (tgt := 18) E g9 (vpl _ _ (by decide)) dX12_isReady_11 (by decide) (fun q8 => ?_) (fun q8 => ?_)
  · replace h := h.1 q8
    refine ra_iconst E dX12_isReady_18 ki_0 ?_
    exact ra_zret E hr rfl dX12_isReady_19 ⟨Or.inl rfl, h⟩
  · replace h := h.2 q8
    refine ra_iconst E dX12_isReady_14 ki_1 ?_
    refine ra_goto (tgt := 19) E dX12_isReady_15 (by decide) ?_
    exact ra_zret E hr rfl dX12_isReady_19 ⟨Or.inr rfl, h⟩
def f_X12_isEaten (p1 : Int32) (M : TM) (K : Int32 → TM → Prop) : Prop := f_X12_orderAt p1 M (fun o2 M1 => (∃ x3, IsOrder x3 ∧ o2 = some x3) ∧ (∀ x3, IsOrder x3 → o2 = some x3 → vp_in (M1 x3 6) 5 ∧ ((¬ (M1 x3 6) = (3 : Int32) → K (0 : Int32) M1) ∧ ((M1 x3 6) = (3 : Int32) → K (1 : Int32) M1))))
set_option maxRecDepth 100000 in
set_option maxHeartbeats 4000000 in
theorem c_X12_isEaten {ad : Nat → Nat} (p1 : Int32) (M : TM) (K : Int32 → TM → Prop) (h : f_X12_isEaten p1 M K) : MI yX12_isEaten cX12_isEaten 2 (some .boolean) 3 ad [.ref (ad 0), .int p1] M (fun r M' => (r = 0 ∨ r = 1) ∧ K r M') := by
  refine MI_of RX12 rfl (by decide +kernel) (Nat.le_of_ble_eq_true rfl) (fun p l e s m below meth c D tc E hr => ?_)
  unfold f_X12_isEaten at h
  refine ra_aload_n E dX12_isEaten_0 rfl 0 rfl ?_
  refine ra_iload_n E dX12_isEaten_1 rfl 1 rfl ?_
  refine ra_callAV (rest := []) E (c_X12_orderAt _ _ _ h) (lq_X12 _) cv_X12_orderAt ml_X12_190 (by decide) (lm (by decide)) (fun R => ⟨_, cel_0 tc ad R⟩) rfl rfl rfl (Nat.le_of_ble_eq_true rfl) ⟨Nat.le_of_ble_eq_true rfl, Nat.le_of_ble_eq_true rfl⟩ ⟨Nat.zero_le _, Nat.zero_le _⟩ dX12_isEaten_2 (fun o2 M1 h => ?_)
  obtain ⟨q5, q7⟩ := h
  obtain ⟨x3, g4, q5⟩ := q5
  replace h := q7 x3 g4 q5
  subst q5
  refine gf_X6_6 E g4 fl_X12_212 dX12_isEaten_5 ?_
  refine gs_O (i := 3) E 3 (by decide) rfl (by decide) fl_X12_224 dX12_isEaten_8 ?_
  obtain ⟨g9, h⟩ := h
  refine acmpO_ne (tgt := 18) E g9 (vpl _ _ (by decide)) dX12_isEaten_11 (by decide) (fun q8 => ?_) (fun q8 => ?_)
  · replace h := h.1 q8
    refine ra_iconst E dX12_isEaten_18 ki_0 ?_
    exact ra_zret E hr rfl dX12_isEaten_19 ⟨Or.inl rfl, h⟩
  · replace h := h.2 q8
    refine ra_iconst E dX12_isEaten_14 ki_1 ?_
    refine ra_goto (tgt := 19) E dX12_isEaten_15 (by decide) ?_
    exact ra_zret E hr rfl dX12_isEaten_19 ⟨Or.inr rfl, h⟩
def f_X12_nearestBarge (p1 : Int32) (M : TM) (K : Int32 → TM → Prop) : Prop := vp_in (M 0 5) 11 ∧ f_X12_orderAt p1 M (fun o3 M2 => (∃ x4, IsOrder x4 ∧ o3 = some x4) ∧ (∀ x4, IsOrder x4 → o3 = some x4 → f_X2_bargeNearestTo (27 + 61 * (M 0 5).toNatClampNeg) (M2 x4 0) M2 (fun r10 M9 => K r10 M9)))
set_option maxRecDepth 100000 in
set_option maxHeartbeats 4000000 in
theorem c_X12_nearestBarge {ad : Nat → Nat} (p1 : Int32) (M : TM) (K : Int32 → TM → Prop) (h : f_X12_nearestBarge p1 M K) : MI yX12_nearestBarge cX12_nearestBarge 2 (some .int) 3 ad [.ref (ad 0), .int p1] M K := by
  refine MI_of RX12 rfl (by decide +kernel) (Nat.le_of_ble_eq_true rfl) (fun p l e s m below meth c D tc E hr => ?_)
  unfold f_X12_nearestBarge at h
  refine ra_aload_n E dX12_nearestBarge_0 rfl 0 rfl ?_
  obtain ⟨g1, h⟩ := h
  refine gf_X12_5 E fl_X12_41 dX12_nearestBarge_1 ?_
  refine ra_aload_n E dX12_nearestBarge_4 rfl 0 rfl ?_
  refine ra_iload_n E dX12_nearestBarge_5 rfl 1 rfl ?_
  refine ra_callAV (rest := [_]) E (c_X12_orderAt _ _ _ h) (lq_X12 _) cv_X12_orderAt ml_X12_190 (by decide) (lm (by decide)) (fun R => ⟨_, cel_0 tc ad R⟩) rfl rfl rfl (Nat.le_of_ble_eq_true rfl) ⟨Nat.le_of_ble_eq_true rfl, Nat.le_of_ble_eq_true rfl⟩ ⟨Nat.zero_le _, Nat.zero_le _⟩ dX12_nearestBarge_6 (fun o3 M2 h => ?_)
  obtain ⟨q6, q8⟩ := h
  obtain ⟨x4, g5, q6⟩ := q6
  replace h := q8 x4 g5 q6
  subst q6
  refine gf_X6_0 E g5 fl_X12_194 dX12_nearestBarge_9 ?_
  refine ra_callIV (rest := []) E (c_X2_bargeNearestTo _ (isCanal_of g1) _ _ _ h) (lq_X2 _) cv_X2_bargeNearestTo ml_X12_278 (by decide) (lm ((isCanal_of g1).add (j := 0) (by decide))) (fun R => ⟨_, cel_canal tc ad (isCanal_of g1) R⟩) rfl rfl rfl (Nat.le_of_ble_eq_true rfl) ⟨Nat.le_of_ble_eq_true rfl, Nat.le_of_ble_eq_true rfl⟩ ⟨Nat.zero_le _, Nat.zero_le _⟩ dX12_nearestBarge_12 (fun r10 M9 h => ?_)
  exact ra_iret E hr dX12_nearestBarge_15 h
def f_X12_sail (p1 : Int32) (p2 : Int32) (M : TM) (K : Int32 → TM → Prop) : Prop := f_X12_requireBarge p1 M (fun M1 => f_X12_requirePlace p2 M1 (fun M2 => vp_in (M2 0 5) 11 ∧ f_X2_canSail (27 + 61 * (M2 0 5).toNatClampNeg) p1 p2 M2 (fun r5 M4 => f_X12_requireState r5 M4 (fun M7 => vp_in (M7 0 5) 11 ∧ f_X5_remember (27 + 61 * (M7 0 5).toNatClampNeg) M7 (fun M9 => vp_in (M9 0 5) 11 ∧ f_X2_setTarget (27 + 61 * (M9 0 5).toNatClampNeg) p1 p2 M9 (fun M11 => vp_in (M11 0 5) 11 ∧ f_X12_bargeAt p1 M11 (fun o14 M13 => (∃ x15, IsBarge x15 ∧ o14 = some x15) ∧ (∀ x15, IsBarge x15 → o14 = some x15 → f_X2_timeBetween (27 + 61 * (M11 0 5).toNatClampNeg) (M13 x15 0) p2 M13 (fun r21 M20 => K r21 M20)))))))))
set_option maxRecDepth 100000 in
set_option maxHeartbeats 4000000 in
theorem c_X12_sail {ad : Nat → Nat} (p1 : Int32) (p2 : Int32) (M : TM) (K : Int32 → TM → Prop) (h : f_X12_sail p1 p2 M K) : MI yX12_sail cX12_sail 3 (some .int) 4 ad [.ref (ad 0), .int p1, .int p2] M K := by
  refine MI_of RX12 rfl (by decide +kernel) (Nat.le_of_ble_eq_true rfl) (fun p l e s m below meth c D tc E hr => ?_)
  unfold f_X12_sail at h
  refine ra_aload_n E dX12_sail_0 rfl 0 rfl ?_
  refine ra_iload_n E dX12_sail_1 rfl 1 rfl ?_
  refine ra_callVV (rest := []) E (c_X12_requireBarge _ _ _ h) (lq_X12 _) cv_X12_requireBarge ml_X12_177 (by decide) (lm (by decide)) (fun R => ⟨_, cel_0 tc ad R⟩) rfl rfl rfl (Nat.le_of_ble_eq_true rfl) ⟨Nat.le_of_ble_eq_true rfl, Nat.le_of_ble_eq_true rfl⟩ ⟨Nat.zero_le _, Nat.zero_le _⟩ dX12_sail_2 (fun M1 h => ?_)
  refine ra_aload_n E dX12_sail_5 rfl 0 rfl ?_
  refine ra_iload_n E dX12_sail_6 rfl 2 rfl ?_
  refine ra_callVV (rest := []) E (c_X12_requirePlace _ _ _ h) (lq_X12 _) cv_X12_requirePlace ml_X12_130 (by decide) (lm (by decide)) (fun R => ⟨_, cel_0 tc ad R⟩) rfl rfl rfl (Nat.le_of_ble_eq_true rfl) ⟨Nat.le_of_ble_eq_true rfl, Nat.le_of_ble_eq_true rfl⟩ ⟨Nat.zero_le _, Nat.zero_le _⟩ dX12_sail_7 (fun M2 h => ?_)
  refine ra_aload_n E dX12_sail_10 rfl 0 rfl ?_
  obtain ⟨g3, h⟩ := h
  refine gf_X12_5 E fl_X12_41 dX12_sail_11 ?_
  refine ra_iload_n E dX12_sail_14 rfl 1 rfl ?_
  refine ra_iload_n E dX12_sail_15 rfl 2 rfl ?_
  refine ra_callIV (rest := []) E (c_X2_canSail _ (isCanal_of g3) _ _ _ _ h) (lq_X2 _) cv_X2_canSail ml_X12_281 (by decide) (lm ((isCanal_of g3).add (j := 0) (by decide))) (fun R => ⟨_, cel_canal tc ad (isCanal_of g3) R⟩) rfl rfl rfl (Nat.le_of_ble_eq_true rfl) ⟨Nat.le_of_ble_eq_true rfl, Nat.le_of_ble_eq_true rfl⟩ ⟨Nat.zero_le _, Nat.zero_le _⟩ dX12_sail_16 (fun r5 M4 h => ?_)
  obtain ⟨b6, h⟩ := h
  refine ra_callVS (rest := []) E (c_X12_requireState _ _ _ h) (lq_X12 _) ct_X12_requireState ml_X12_285 (by decide) rfl rfl (Nat.le_of_ble_eq_true rfl) ⟨Nat.le_of_ble_eq_true rfl, Nat.le_of_ble_eq_true rfl⟩ ⟨Nat.zero_le _, Nat.zero_le _⟩ dX12_sail_19 (fun M7 h => ?_)
  refine ra_aload_n E dX12_sail_22 rfl 0 rfl ?_
  refine gf_X12_2 E fl_X12_26 dX12_sail_23 ?_
  refine ra_aload_n E dX12_sail_26 rfl 0 rfl ?_
  obtain ⟨g8, h⟩ := h
  refine gf_X12_5 E fl_X12_41 dX12_sail_27 ?_
  refine ra_callVV (rest := []) E (c_X5_remember _ (isCanal_of g8) _ _ h) (lq_X5 _) cv_X5_remember ml_X12_289 (by decide) (lm (by decide)) (fun R => ⟨_, cel_25 tc ad R⟩) rfl rfl rfl (Nat.le_of_ble_eq_true rfl) ⟨Nat.le_of_ble_eq_true rfl, Nat.le_of_ble_eq_true rfl⟩ ⟨Nat.zero_le _, Nat.zero_le _⟩ dX12_sail_30 (fun M9 h => ?_)
  refine ra_aload_n E dX12_sail_33 rfl 0 rfl ?_
  obtain ⟨g10, h⟩ := h
  refine gf_X12_5 E fl_X12_41 dX12_sail_34 ?_
  refine ra_iload_n E dX12_sail_37 rfl 1 rfl ?_
  refine ra_iload_n E dX12_sail_38 rfl 2 rfl ?_
  refine ra_callVV (rest := []) E (c_X2_setTarget _ (isCanal_of g10) _ _ _ _ h) (lq_X2 _) cv_X2_setTarget ml_X12_292 (by decide) (lm ((isCanal_of g10).add (j := 0) (by decide))) (fun R => ⟨_, cel_canal tc ad (isCanal_of g10) R⟩) rfl rfl rfl (Nat.le_of_ble_eq_true rfl) ⟨Nat.le_of_ble_eq_true rfl, Nat.le_of_ble_eq_true rfl⟩ ⟨Nat.zero_le _, Nat.zero_le _⟩ dX12_sail_39 (fun M11 h => ?_)
  refine ra_aload_n E dX12_sail_42 rfl 0 rfl ?_
  obtain ⟨g12, h⟩ := h
  refine gf_X12_5 E fl_X12_41 dX12_sail_43 ?_
  refine ra_aload_n E dX12_sail_46 rfl 0 rfl ?_
  refine ra_iload_n E dX12_sail_47 rfl 1 rfl ?_
  refine ra_callAV (rest := [_]) E (c_X12_bargeAt _ _ _ h) (lq_X12 _) cv_X12_bargeAt ml_X12_144 (by decide) (lm (by decide)) (fun R => ⟨_, cel_0 tc ad R⟩) rfl rfl rfl (Nat.le_of_ble_eq_true rfl) ⟨Nat.le_of_ble_eq_true rfl, Nat.le_of_ble_eq_true rfl⟩ ⟨Nat.zero_le _, Nat.zero_le _⟩ dX12_sail_48 (fun o14 M13 h => ?_)
  obtain ⟨q17, q19⟩ := h
  obtain ⟨x15, g16, q17⟩ := q17
  replace h := q19 x15 g16 q17
  subst q17
  refine gf_X1_0 E g16 fl_X12_148 dX12_sail_51 ?_
  refine ra_iload_n E dX12_sail_54 rfl 2 rfl ?_
  refine ra_callIV (rest := []) E (c_X2_timeBetween _ (isCanal_of g12) _ _ _ _ h) (lq_X2 _) cv_X2_timeBetween ml_X12_255 (by decide) (lm ((isCanal_of g12).add (j := 0) (by decide))) (fun R => ⟨_, cel_canal tc ad (isCanal_of g12) R⟩) rfl rfl rfl (Nat.le_of_ble_eq_true rfl) ⟨Nat.le_of_ble_eq_true rfl, Nat.le_of_ble_eq_true rfl⟩ ⟨Nat.zero_le _, Nat.zero_le _⟩ dX12_sail_55 (fun r21 M20 h => ?_)
  exact ra_iret E hr dX12_sail_58 h
def f_X12_makeOrder (p1 : Int32) (p2 : Int32) (p3 : Int32) (p4 : Int32) (M : TM) (K : Int32 → TM → Prop) : Prop := f_X12_requirePlace p1 M (fun M1 => f_X12_requireRange p2 (1 : Int32) (4 : Int32) M1 (fun M2 => f_X12_requireRange p3 (1 : Int32) (6 : Int32) M2 (fun M3 => f_X12_requireRange p4 (1 : Int32) (500 : Int32) M3 (fun M4 => vp_in (M4 0 5) 11 ∧ f_X2_canAddOrder (27 + 61 * (M4 0 5).toNatClampNeg) p1 M4 (fun r7 M6 => f_X12_requireState r7 M6 (fun M9 => vp_in (M9 0 5) 11 ∧ f_X5_remember (27 + 61 * (M9 0 5).toNatClampNeg) M9 (fun M11 => vp_in (M11 0 5) 11 ∧ f_X2_addOrder (27 + 61 * (M11 0 5).toNatClampNeg) p1 p2 p3 p4 M11 (fun M13 => vp_in (M13 0 5) 11 ∧ K ((M13 (27 + 61 * (M13 0 5).toNatClampNeg) 6) - (1 : Int32)) M13))))))))
set_option maxRecDepth 100000 in
set_option maxHeartbeats 4000000 in
theorem c_X12_makeOrder {ad : Nat → Nat} (p1 : Int32) (p2 : Int32) (p3 : Int32) (p4 : Int32) (M : TM) (K : Int32 → TM → Prop) (h : f_X12_makeOrder p1 p2 p3 p4 M K) : MI yX12_makeOrder cX12_makeOrder 5 (some .int) 4 ad [.ref (ad 0), .int p1, .int p2, .int p3, .int p4] M K := by
  refine MI_of RX12 rfl (by decide +kernel) (Nat.le_of_ble_eq_true rfl) (fun p l e s m below meth c D tc E hr => ?_)
  unfold f_X12_makeOrder at h
  refine ra_aload_n E dX12_makeOrder_0 rfl 0 rfl ?_
  refine ra_iload_n E dX12_makeOrder_1 rfl 1 rfl ?_
  refine ra_callVV (rest := []) E (c_X12_requirePlace _ _ _ h) (lq_X12 _) cv_X12_requirePlace ml_X12_130 (by decide) (lm (by decide)) (fun R => ⟨_, cel_0 tc ad R⟩) rfl rfl rfl (Nat.le_of_ble_eq_true rfl) ⟨Nat.le_of_ble_eq_true rfl, Nat.le_of_ble_eq_true rfl⟩ ⟨Nat.zero_le _, Nat.zero_le _⟩ dX12_makeOrder_2 (fun M1 h => ?_)
  refine ra_iload_n E dX12_makeOrder_5 rfl 2 rfl ?_
  refine ra_iconst E dX12_makeOrder_6 ki_1 ?_
  refine ra_iconst E dX12_makeOrder_7 ki_4 ?_
  refine ra_callVS (rest := []) E (c_X12_requireRange _ _ _ _ _ h) (lq_X12 _) ct_X12_requireRange ml_X12_274 (by decide) rfl rfl (Nat.le_of_ble_eq_true rfl) ⟨Nat.le_of_ble_eq_true rfl, Nat.le_of_ble_eq_true rfl⟩ ⟨Nat.zero_le _, Nat.zero_le _⟩ dX12_makeOrder_8 (fun M2 h => ?_)
  refine ra_iload_n E dX12_makeOrder_11 rfl 3 rfl ?_
  refine ra_iconst E dX12_makeOrder_12 ki_1 ?_
  refine ra_bipush E dX12_makeOrder_13 kb_6 ?_
  refine ra_callVS (rest := []) E (c_X12_requireRange _ _ _ _ _ h) (lq_X12 _) ct_X12_requireRange ml_X12_274 (by decide) rfl rfl (Nat.le_of_ble_eq_true rfl) ⟨Nat.le_of_ble_eq_true rfl, Nat.le_of_ble_eq_true rfl⟩ ⟨Nat.zero_le _, Nat.zero_le _⟩ dX12_makeOrder_15 (fun M3 h => ?_)
  refine ra_iload E dX12_makeOrder_18 4 rfl ?_
  refine ra_iconst E dX12_makeOrder_20 ki_1 ?_
  refine ra_sipush E dX12_makeOrder_21 ks_500 ?_
  refine ra_callVS (rest := []) E (c_X12_requireRange _ _ _ _ _ h) (lq_X12 _) ct_X12_requireRange ml_X12_274 (by decide) rfl rfl (Nat.le_of_ble_eq_true rfl) ⟨Nat.le_of_ble_eq_true rfl, Nat.le_of_ble_eq_true rfl⟩ ⟨Nat.zero_le _, Nat.zero_le _⟩ dX12_makeOrder_24 (fun M4 h => ?_)
  refine ra_aload_n E dX12_makeOrder_27 rfl 0 rfl ?_
  obtain ⟨g5, h⟩ := h
  refine gf_X12_5 E fl_X12_41 dX12_makeOrder_28 ?_
  refine ra_iload_n E dX12_makeOrder_31 rfl 1 rfl ?_
  refine ra_callIV (rest := []) E (c_X2_canAddOrder _ (isCanal_of g5) _ _ _ h) (lq_X2 _) cv_X2_canAddOrder ml_X12_296 (by decide) (lm ((isCanal_of g5).add (j := 0) (by decide))) (fun R => ⟨_, cel_canal tc ad (isCanal_of g5) R⟩) rfl rfl rfl (Nat.le_of_ble_eq_true rfl) ⟨Nat.le_of_ble_eq_true rfl, Nat.le_of_ble_eq_true rfl⟩ ⟨Nat.zero_le _, Nat.zero_le _⟩ dX12_makeOrder_32 (fun r7 M6 h => ?_)
  obtain ⟨b8, h⟩ := h
  refine ra_callVS (rest := []) E (c_X12_requireState _ _ _ h) (lq_X12 _) ct_X12_requireState ml_X12_285 (by decide) rfl rfl (Nat.le_of_ble_eq_true rfl) ⟨Nat.le_of_ble_eq_true rfl, Nat.le_of_ble_eq_true rfl⟩ ⟨Nat.zero_le _, Nat.zero_le _⟩ dX12_makeOrder_35 (fun M9 h => ?_)
  refine ra_aload_n E dX12_makeOrder_38 rfl 0 rfl ?_
  refine gf_X12_2 E fl_X12_26 dX12_makeOrder_39 ?_
  refine ra_aload_n E dX12_makeOrder_42 rfl 0 rfl ?_
  obtain ⟨g10, h⟩ := h
  refine gf_X12_5 E fl_X12_41 dX12_makeOrder_43 ?_
  refine ra_callVV (rest := []) E (c_X5_remember _ (isCanal_of g10) _ _ h) (lq_X5 _) cv_X5_remember ml_X12_289 (by decide) (lm (by decide)) (fun R => ⟨_, cel_25 tc ad R⟩) rfl rfl rfl (Nat.le_of_ble_eq_true rfl) ⟨Nat.le_of_ble_eq_true rfl, Nat.le_of_ble_eq_true rfl⟩ ⟨Nat.zero_le _, Nat.zero_le _⟩ dX12_makeOrder_46 (fun M11 h => ?_)
  refine ra_aload_n E dX12_makeOrder_49 rfl 0 rfl ?_
  obtain ⟨g12, h⟩ := h
  refine gf_X12_5 E fl_X12_41 dX12_makeOrder_50 ?_
  refine ra_iload_n E dX12_makeOrder_53 rfl 1 rfl ?_
  refine ra_iload_n E dX12_makeOrder_54 rfl 2 rfl ?_
  refine ra_iload_n E dX12_makeOrder_55 rfl 3 rfl ?_
  refine ra_iload E dX12_makeOrder_56 4 rfl ?_
  refine ra_callVV (rest := []) E (c_X2_addOrder _ (isCanal_of g12) _ _ _ _ _ _ h) (lq_X2 _) cv_X2_addOrder ml_X12_299 (by decide) (lm ((isCanal_of g12).add (j := 0) (by decide))) (fun R => ⟨_, cel_canal tc ad (isCanal_of g12) R⟩) rfl rfl rfl (Nat.le_of_ble_eq_true rfl) ⟨Nat.le_of_ble_eq_true rfl, Nat.le_of_ble_eq_true rfl⟩ ⟨Nat.zero_le _, Nat.zero_le _⟩ dX12_makeOrder_58 (fun M13 h => ?_)
  refine ra_aload_n E dX12_makeOrder_61 rfl 0 rfl ?_
  obtain ⟨g14, h⟩ := h
  refine gf_X12_5 E fl_X12_41 dX12_makeOrder_62 ?_
  refine gf_X2_6 E (isCanal_of g14) fl_X12_187 dX12_makeOrder_65 ?_
  refine ra_iconst E dX12_makeOrder_68 ki_1 ?_
  refine ra_isub E dX12_makeOrder_69 ?_
  exact ra_iret E hr dX12_makeOrder_70 h
def f_X12_take (p1 : Int32) (p2 : Int32) (M : TM) (K : Int32 → TM → Prop) : Prop := f_X12_requireBarge p1 M (fun M1 => f_X12_requireOrder p2 M1 (fun M2 => vp_in (M2 0 5) 11 ∧ f_X2_canGive (27 + 61 * (M2 0 5).toNatClampNeg) p1 p2 M2 (fun r5 M4 => f_X12_requireState r5 M4 (fun M7 => vp_in (M7 0 5) 11 ∧ f_X5_remember (27 + 61 * (M7 0 5).toNatClampNeg) M7 (fun M9 => vp_in (M9 0 5) 11 ∧ f_X2_give (27 + 61 * (M9 0 5).toNatClampNeg) p1 p2 M9 (fun M11 => f_X12_bargeAt p1 M11 (fun o13 M12 => (∃ x14, IsBarge x14 ∧ o13 = some x14) ∧ (∀ x14, IsBarge x14 → o13 = some x14 → K (M12 x14 8) M12))))))))
set_option maxRecDepth 100000 in
set_option maxHeartbeats 4000000 in
theorem c_X12_take {ad : Nat → Nat} (p1 : Int32) (p2 : Int32) (M : TM) (K : Int32 → TM → Prop) (h : f_X12_take p1 p2 M K) : MI yX12_take cX12_take 3 (some .int) 4 ad [.ref (ad 0), .int p1, .int p2] M K := by
  refine MI_of RX12 rfl (by decide +kernel) (Nat.le_of_ble_eq_true rfl) (fun p l e s m below meth c D tc E hr => ?_)
  unfold f_X12_take at h
  refine ra_aload_n E dX12_take_0 rfl 0 rfl ?_
  refine ra_iload_n E dX12_take_1 rfl 1 rfl ?_
  refine ra_callVV (rest := []) E (c_X12_requireBarge _ _ _ h) (lq_X12 _) cv_X12_requireBarge ml_X12_177 (by decide) (lm (by decide)) (fun R => ⟨_, cel_0 tc ad R⟩) rfl rfl rfl (Nat.le_of_ble_eq_true rfl) ⟨Nat.le_of_ble_eq_true rfl, Nat.le_of_ble_eq_true rfl⟩ ⟨Nat.zero_le _, Nat.zero_le _⟩ dX12_take_2 (fun M1 h => ?_)
  refine ra_aload_n E dX12_take_5 rfl 0 rfl ?_
  refine ra_iload_n E dX12_take_6 rfl 2 rfl ?_
  refine ra_callVV (rest := []) E (c_X12_requireOrder _ _ _ h) (lq_X12 _) cv_X12_requireOrder ml_X12_268 (by decide) (lm (by decide)) (fun R => ⟨_, cel_0 tc ad R⟩) rfl rfl rfl (Nat.le_of_ble_eq_true rfl) ⟨Nat.le_of_ble_eq_true rfl, Nat.le_of_ble_eq_true rfl⟩ ⟨Nat.zero_le _, Nat.zero_le _⟩ dX12_take_7 (fun M2 h => ?_)
  refine ra_aload_n E dX12_take_10 rfl 0 rfl ?_
  obtain ⟨g3, h⟩ := h
  refine gf_X12_5 E fl_X12_41 dX12_take_11 ?_
  refine ra_iload_n E dX12_take_14 rfl 1 rfl ?_
  refine ra_iload_n E dX12_take_15 rfl 2 rfl ?_
  refine ra_callIV (rest := []) E (c_X2_canGive _ (isCanal_of g3) _ _ _ _ h) (lq_X2 _) cv_X2_canGive ml_X12_303 (by decide) (lm ((isCanal_of g3).add (j := 0) (by decide))) (fun R => ⟨_, cel_canal tc ad (isCanal_of g3) R⟩) rfl rfl rfl (Nat.le_of_ble_eq_true rfl) ⟨Nat.le_of_ble_eq_true rfl, Nat.le_of_ble_eq_true rfl⟩ ⟨Nat.zero_le _, Nat.zero_le _⟩ dX12_take_16 (fun r5 M4 h => ?_)
  obtain ⟨b6, h⟩ := h
  refine ra_callVS (rest := []) E (c_X12_requireState _ _ _ h) (lq_X12 _) ct_X12_requireState ml_X12_285 (by decide) rfl rfl (Nat.le_of_ble_eq_true rfl) ⟨Nat.le_of_ble_eq_true rfl, Nat.le_of_ble_eq_true rfl⟩ ⟨Nat.zero_le _, Nat.zero_le _⟩ dX12_take_19 (fun M7 h => ?_)
  refine ra_aload_n E dX12_take_22 rfl 0 rfl ?_
  refine gf_X12_2 E fl_X12_26 dX12_take_23 ?_
  refine ra_aload_n E dX12_take_26 rfl 0 rfl ?_
  obtain ⟨g8, h⟩ := h
  refine gf_X12_5 E fl_X12_41 dX12_take_27 ?_
  refine ra_callVV (rest := []) E (c_X5_remember _ (isCanal_of g8) _ _ h) (lq_X5 _) cv_X5_remember ml_X12_289 (by decide) (lm (by decide)) (fun R => ⟨_, cel_25 tc ad R⟩) rfl rfl rfl (Nat.le_of_ble_eq_true rfl) ⟨Nat.le_of_ble_eq_true rfl, Nat.le_of_ble_eq_true rfl⟩ ⟨Nat.zero_le _, Nat.zero_le _⟩ dX12_take_30 (fun M9 h => ?_)
  refine ra_aload_n E dX12_take_33 rfl 0 rfl ?_
  obtain ⟨g10, h⟩ := h
  refine gf_X12_5 E fl_X12_41 dX12_take_34 ?_
  refine ra_iload_n E dX12_take_37 rfl 1 rfl ?_
  refine ra_iload_n E dX12_take_38 rfl 2 rfl ?_
  refine ra_callVV (rest := []) E (c_X2_give _ (isCanal_of g10) _ _ _ _ h) (lq_X2 _) cv_X2_give ml_X12_306 (by decide) (lm ((isCanal_of g10).add (j := 0) (by decide))) (fun R => ⟨_, cel_canal tc ad (isCanal_of g10) R⟩) rfl rfl rfl (Nat.le_of_ble_eq_true rfl) ⟨Nat.le_of_ble_eq_true rfl, Nat.le_of_ble_eq_true rfl⟩ ⟨Nat.zero_le _, Nat.zero_le _⟩ dX12_take_39 (fun M11 h => ?_)
  refine ra_aload_n E dX12_take_42 rfl 0 rfl ?_
  refine ra_iload_n E dX12_take_43 rfl 1 rfl ?_
  refine ra_callAV (rest := []) E (c_X12_bargeAt _ _ _ h) (lq_X12 _) cv_X12_bargeAt ml_X12_144 (by decide) (lm (by decide)) (fun R => ⟨_, cel_0 tc ad R⟩) rfl rfl rfl (Nat.le_of_ble_eq_true rfl) ⟨Nat.le_of_ble_eq_true rfl, Nat.le_of_ble_eq_true rfl⟩ ⟨Nat.zero_le _, Nat.zero_le _⟩ dX12_take_44 (fun o13 M12 h => ?_)
  obtain ⟨q16, q18⟩ := h
  obtain ⟨x14, g15, q16⟩ := q16
  replace h := q18 x14 g15 q16
  subst q16
  refine gf_X1_8 E g15 fl_X12_171 dX12_take_47 ?_
  exact ra_iret E hr dX12_take_50 h
def f_X12_drop (p1 : Int32) (M : TM) (K : Int32 → TM → Prop) : Prop := f_X12_requireOrder p1 M (fun M1 => vp_in (M1 0 5) 11 ∧ f_X2_canReopen (27 + 61 * (M1 0 5).toNatClampNeg) p1 M1 (fun r4 M3 => f_X12_requireState r4 M3 (fun M6 => vp_in (M6 0 5) 11 ∧ f_X5_remember (27 + 61 * (M6 0 5).toNatClampNeg) M6 (fun M8 => f_X12_orderAt p1 M8 (fun o10 M9 => (∃ x11, IsOrder x11 ∧ o10 = some x11) ∧ (∀ x11, IsOrder x11 → o10 = some x11 → vp_in (M9 0 5) 11 ∧ f_X2_reopen (27 + 61 * (M9 0 5).toNatClampNeg) p1 M9 (fun M17 => K (M9 x11 7) M17)))))))
set_option maxRecDepth 100000 in
set_option maxHeartbeats 4000000 in
theorem c_X12_drop {ad : Nat → Nat} (p1 : Int32) (M : TM) (K : Int32 → TM → Prop) (h : f_X12_drop p1 M K) : MI yX12_drop cX12_drop 3 (some .int) 4 ad [.ref (ad 0), .int p1] M K := by
  refine MI_of RX12 rfl (by decide +kernel) (Nat.le_of_ble_eq_true rfl) (fun p l e s m below meth c D tc E hr => ?_)
  unfold f_X12_drop at h
  refine ra_aload_n E dX12_drop_0 rfl 0 rfl ?_
  refine ra_iload_n E dX12_drop_1 rfl 1 rfl ?_
  refine ra_callVV (rest := []) E (c_X12_requireOrder _ _ _ h) (lq_X12 _) cv_X12_requireOrder ml_X12_268 (by decide) (lm (by decide)) (fun R => ⟨_, cel_0 tc ad R⟩) rfl rfl rfl (Nat.le_of_ble_eq_true rfl) ⟨Nat.le_of_ble_eq_true rfl, Nat.le_of_ble_eq_true rfl⟩ ⟨Nat.zero_le _, Nat.zero_le _⟩ dX12_drop_2 (fun M1 h => ?_)
  refine ra_aload_n E dX12_drop_5 rfl 0 rfl ?_
  obtain ⟨g2, h⟩ := h
  refine gf_X12_5 E fl_X12_41 dX12_drop_6 ?_
  refine ra_iload_n E dX12_drop_9 rfl 1 rfl ?_
  refine ra_callIV (rest := []) E (c_X2_canReopen _ (isCanal_of g2) _ _ _ h) (lq_X2 _) cv_X2_canReopen ml_X12_309 (by decide) (lm ((isCanal_of g2).add (j := 0) (by decide))) (fun R => ⟨_, cel_canal tc ad (isCanal_of g2) R⟩) rfl rfl rfl (Nat.le_of_ble_eq_true rfl) ⟨Nat.le_of_ble_eq_true rfl, Nat.le_of_ble_eq_true rfl⟩ ⟨Nat.zero_le _, Nat.zero_le _⟩ dX12_drop_10 (fun r4 M3 h => ?_)
  obtain ⟨b5, h⟩ := h
  refine ra_callVS (rest := []) E (c_X12_requireState _ _ _ h) (lq_X12 _) ct_X12_requireState ml_X12_285 (by decide) rfl rfl (Nat.le_of_ble_eq_true rfl) ⟨Nat.le_of_ble_eq_true rfl, Nat.le_of_ble_eq_true rfl⟩ ⟨Nat.zero_le _, Nat.zero_le _⟩ dX12_drop_13 (fun M6 h => ?_)
  refine ra_aload_n E dX12_drop_16 rfl 0 rfl ?_
  refine gf_X12_2 E fl_X12_26 dX12_drop_17 ?_
  refine ra_aload_n E dX12_drop_20 rfl 0 rfl ?_
  obtain ⟨g7, h⟩ := h
  refine gf_X12_5 E fl_X12_41 dX12_drop_21 ?_
  refine ra_callVV (rest := []) E (c_X5_remember _ (isCanal_of g7) _ _ h) (lq_X5 _) cv_X5_remember ml_X12_289 (by decide) (lm (by decide)) (fun R => ⟨_, cel_25 tc ad R⟩) rfl rfl rfl (Nat.le_of_ble_eq_true rfl) ⟨Nat.le_of_ble_eq_true rfl, Nat.le_of_ble_eq_true rfl⟩ ⟨Nat.zero_le _, Nat.zero_le _⟩ dX12_drop_24 (fun M8 h => ?_)
  refine ra_aload_n E dX12_drop_27 rfl 0 rfl ?_
  refine ra_iload_n E dX12_drop_28 rfl 1 rfl ?_
  refine ra_callAV (rest := []) E (c_X12_orderAt _ _ _ h) (lq_X12 _) cv_X12_orderAt ml_X12_190 (by decide) (lm (by decide)) (fun R => ⟨_, cel_0 tc ad R⟩) rfl rfl rfl (Nat.le_of_ble_eq_true rfl) ⟨Nat.le_of_ble_eq_true rfl, Nat.le_of_ble_eq_true rfl⟩ ⟨Nat.zero_le _, Nat.zero_le _⟩ dX12_drop_29 (fun o10 M9 h => ?_)
  obtain ⟨q13, q15⟩ := h
  obtain ⟨x11, g12, q13⟩ := q13
  replace h := q15 x11 g12 q13
  subst q13
  refine gf_X6_7 E g12 fl_X12_209 dX12_drop_32 ?_
  refine ra_istore_n (L' := [(2, _), (0, _), (1, _)]) E dX12_drop_35 rfl (by decide) rfl ?_
  refine ra_aload_n E dX12_drop_36 rfl 1 rfl ?_
  obtain ⟨g16, h⟩ := h
  refine gf_X12_5 E fl_X12_41 dX12_drop_37 ?_
  refine ra_iload_n E dX12_drop_40 rfl 2 rfl ?_
  refine ra_callVV (rest := []) E (c_X2_reopen _ (isCanal_of g16) _ _ _ h) (lq_X2 _) cv_X2_reopen ml_X12_312 (by decide) (lm ((isCanal_of g16).add (j := 0) (by decide))) (fun R => ⟨_, cel_canal tc ad (isCanal_of g16) R⟩) rfl rfl rfl (Nat.le_of_ble_eq_true rfl) ⟨Nat.le_of_ble_eq_true rfl, Nat.le_of_ble_eq_true rfl⟩ ⟨Nat.zero_le _, Nat.zero_le _⟩ dX12_drop_41 (fun M17 h => ?_)
  refine ra_iload_n E dX12_drop_44 rfl 0 rfl ?_
  exact ra_iret E hr dX12_drop_45 h
def f_X12_buyFlour (p1 : Int32) (p2 : Int32) (M : TM) (K : Int32 → TM → Prop) : Prop := f_X12_requireBarge p1 M (fun M1 => f_X12_requireRange p2 (1 : Int32) (99 : Int32) M1 (fun M2 => vp_in (M2 0 5) 11 ∧ f_X2_canLoadFlour (27 + 61 * (M2 0 5).toNatClampNeg) p1 p2 M2 (fun r5 M4 => f_X12_requireState r5 M4 (fun M7 => vp_in (M7 0 5) 11 ∧ f_X5_remember (27 + 61 * (M7 0 5).toNatClampNeg) M7 (fun M9 => vp_in (M9 0 5) 11 ∧ f_X2_loadFlour (27 + 61 * (M9 0 5).toNatClampNeg) p1 p2 M9 (fun M11 => f_X12_bargeAt p1 M11 (fun o13 M12 => (∃ x14, IsBarge x14 ∧ o13 = some x14) ∧ (∀ x14, IsBarge x14 → o13 = some x14 → K (M12 x14 4) M12))))))))
set_option maxRecDepth 100000 in
set_option maxHeartbeats 4000000 in
theorem c_X12_buyFlour {ad : Nat → Nat} (p1 : Int32) (p2 : Int32) (M : TM) (K : Int32 → TM → Prop) (h : f_X12_buyFlour p1 p2 M K) : MI yX12_buyFlour cX12_buyFlour 3 (some .int) 4 ad [.ref (ad 0), .int p1, .int p2] M K := by
  refine MI_of RX12 rfl (by decide +kernel) (Nat.le_of_ble_eq_true rfl) (fun p l e s m below meth c D tc E hr => ?_)
  unfold f_X12_buyFlour at h
  refine ra_aload_n E dX12_buyFlour_0 rfl 0 rfl ?_
  refine ra_iload_n E dX12_buyFlour_1 rfl 1 rfl ?_
  refine ra_callVV (rest := []) E (c_X12_requireBarge _ _ _ h) (lq_X12 _) cv_X12_requireBarge ml_X12_177 (by decide) (lm (by decide)) (fun R => ⟨_, cel_0 tc ad R⟩) rfl rfl rfl (Nat.le_of_ble_eq_true rfl) ⟨Nat.le_of_ble_eq_true rfl, Nat.le_of_ble_eq_true rfl⟩ ⟨Nat.zero_le _, Nat.zero_le _⟩ dX12_buyFlour_2 (fun M1 h => ?_)
  refine ra_iload_n E dX12_buyFlour_5 rfl 2 rfl ?_
  refine ra_iconst E dX12_buyFlour_6 ki_1 ?_
  refine ra_bipush E dX12_buyFlour_7 kb_99 ?_
  refine ra_callVS (rest := []) E (c_X12_requireRange _ _ _ _ _ h) (lq_X12 _) ct_X12_requireRange ml_X12_274 (by decide) rfl rfl (Nat.le_of_ble_eq_true rfl) ⟨Nat.le_of_ble_eq_true rfl, Nat.le_of_ble_eq_true rfl⟩ ⟨Nat.zero_le _, Nat.zero_le _⟩ dX12_buyFlour_9 (fun M2 h => ?_)
  refine ra_aload_n E dX12_buyFlour_12 rfl 0 rfl ?_
  obtain ⟨g3, h⟩ := h
  refine gf_X12_5 E fl_X12_41 dX12_buyFlour_13 ?_
  refine ra_iload_n E dX12_buyFlour_16 rfl 1 rfl ?_
  refine ra_iload_n E dX12_buyFlour_17 rfl 2 rfl ?_
  refine ra_callIV (rest := []) E (c_X2_canLoadFlour _ (isCanal_of g3) _ _ _ _ h) (lq_X2 _) cv_X2_canLoadFlour ml_X12_315 (by decide) (lm ((isCanal_of g3).add (j := 0) (by decide))) (fun R => ⟨_, cel_canal tc ad (isCanal_of g3) R⟩) rfl rfl rfl (Nat.le_of_ble_eq_true rfl) ⟨Nat.le_of_ble_eq_true rfl, Nat.le_of_ble_eq_true rfl⟩ ⟨Nat.zero_le _, Nat.zero_le _⟩ dX12_buyFlour_18 (fun r5 M4 h => ?_)
  obtain ⟨b6, h⟩ := h
  refine ra_callVS (rest := []) E (c_X12_requireState _ _ _ h) (lq_X12 _) ct_X12_requireState ml_X12_285 (by decide) rfl rfl (Nat.le_of_ble_eq_true rfl) ⟨Nat.le_of_ble_eq_true rfl, Nat.le_of_ble_eq_true rfl⟩ ⟨Nat.zero_le _, Nat.zero_le _⟩ dX12_buyFlour_21 (fun M7 h => ?_)
  refine ra_aload_n E dX12_buyFlour_24 rfl 0 rfl ?_
  refine gf_X12_2 E fl_X12_26 dX12_buyFlour_25 ?_
  refine ra_aload_n E dX12_buyFlour_28 rfl 0 rfl ?_
  obtain ⟨g8, h⟩ := h
  refine gf_X12_5 E fl_X12_41 dX12_buyFlour_29 ?_
  refine ra_callVV (rest := []) E (c_X5_remember _ (isCanal_of g8) _ _ h) (lq_X5 _) cv_X5_remember ml_X12_289 (by decide) (lm (by decide)) (fun R => ⟨_, cel_25 tc ad R⟩) rfl rfl rfl (Nat.le_of_ble_eq_true rfl) ⟨Nat.le_of_ble_eq_true rfl, Nat.le_of_ble_eq_true rfl⟩ ⟨Nat.zero_le _, Nat.zero_le _⟩ dX12_buyFlour_32 (fun M9 h => ?_)
  refine ra_aload_n E dX12_buyFlour_35 rfl 0 rfl ?_
  obtain ⟨g10, h⟩ := h
  refine gf_X12_5 E fl_X12_41 dX12_buyFlour_36 ?_
  refine ra_iload_n E dX12_buyFlour_39 rfl 1 rfl ?_
  refine ra_iload_n E dX12_buyFlour_40 rfl 2 rfl ?_
  refine ra_callVV (rest := []) E (c_X2_loadFlour _ (isCanal_of g10) _ _ _ _ h) (lq_X2 _) cv_X2_loadFlour ml_X12_318 (by decide) (lm ((isCanal_of g10).add (j := 0) (by decide))) (fun R => ⟨_, cel_canal tc ad (isCanal_of g10) R⟩) rfl rfl rfl (Nat.le_of_ble_eq_true rfl) ⟨Nat.le_of_ble_eq_true rfl, Nat.le_of_ble_eq_true rfl⟩ ⟨Nat.zero_le _, Nat.zero_le _⟩ dX12_buyFlour_41 (fun M11 h => ?_)
  refine ra_aload_n E dX12_buyFlour_44 rfl 0 rfl ?_
  refine ra_iload_n E dX12_buyFlour_45 rfl 1 rfl ?_
  refine ra_callAV (rest := []) E (c_X12_bargeAt _ _ _ h) (lq_X12 _) cv_X12_bargeAt ml_X12_144 (by decide) (lm (by decide)) (fun R => ⟨_, cel_0 tc ad R⟩) rfl rfl rfl (Nat.le_of_ble_eq_true rfl) ⟨Nat.le_of_ble_eq_true rfl, Nat.le_of_ble_eq_true rfl⟩ ⟨Nat.zero_le _, Nat.zero_le _⟩ dX12_buyFlour_46 (fun o13 M12 h => ?_)
  obtain ⟨q16, q18⟩ := h
  obtain ⟨x14, g15, q16⟩ := q16
  replace h := q18 x14 g15 q16
  subst q16
  refine gf_X1_4 E g15 fl_X12_162 dX12_buyFlour_49 ?_
  exact ra_iret E hr dX12_buyFlour_52 h
def f_X12_collect (p1 : Int32) (M : TM) (K : Int32 → TM → Prop) : Prop := f_X12_requireBarge p1 M (fun M1 => vp_in (M1 0 5) 11 ∧ f_X2_canGather (27 + 61 * (M1 0 5).toNatClampNeg) p1 M1 (fun r4 M3 => f_X12_requireState r4 M3 (fun M6 => vp_in (M6 0 5) 11 ∧ f_X5_remember (27 + 61 * (M6 0 5).toNatClampNeg) M6 (fun M8 => f_X12_bargeAt p1 M8 (fun o10 M9 => (∃ x11, IsBarge x11 ∧ o10 = some x11) ∧ (∀ x11, IsBarge x11 → o10 = some x11 → vp_in (M9 0 5) 11 ∧ f_X2_gather (27 + 61 * (M9 0 5).toNatClampNeg) p1 M9 (fun M17 => f_X12_bargeAt p1 M17 (fun o19 M18 => (∃ x20, IsBarge x20 ∧ o19 = some x20) ∧ (∀ x20, IsBarge x20 → o19 = some x20 → K ((M18 x20 6) - (M9 x11 6)) M18)))))))))
set_option maxRecDepth 100000 in
set_option maxHeartbeats 4000000 in
theorem c_X12_collect {ad : Nat → Nat} (p1 : Int32) (M : TM) (K : Int32 → TM → Prop) (h : f_X12_collect p1 M K) : MI yX12_collect cX12_collect 3 (some .int) 4 ad [.ref (ad 0), .int p1] M K := by
  refine MI_of RX12 rfl (by decide +kernel) (Nat.le_of_ble_eq_true rfl) (fun p l e s m below meth c D tc E hr => ?_)
  unfold f_X12_collect at h
  refine ra_aload_n E dX12_collect_0 rfl 0 rfl ?_
  refine ra_iload_n E dX12_collect_1 rfl 1 rfl ?_
  refine ra_callVV (rest := []) E (c_X12_requireBarge _ _ _ h) (lq_X12 _) cv_X12_requireBarge ml_X12_177 (by decide) (lm (by decide)) (fun R => ⟨_, cel_0 tc ad R⟩) rfl rfl rfl (Nat.le_of_ble_eq_true rfl) ⟨Nat.le_of_ble_eq_true rfl, Nat.le_of_ble_eq_true rfl⟩ ⟨Nat.zero_le _, Nat.zero_le _⟩ dX12_collect_2 (fun M1 h => ?_)
  refine ra_aload_n E dX12_collect_5 rfl 0 rfl ?_
  obtain ⟨g2, h⟩ := h
  refine gf_X12_5 E fl_X12_41 dX12_collect_6 ?_
  refine ra_iload_n E dX12_collect_9 rfl 1 rfl ?_
  refine ra_callIV (rest := []) E (c_X2_canGather _ (isCanal_of g2) _ _ _ h) (lq_X2 _) cv_X2_canGather ml_X12_321 (by decide) (lm ((isCanal_of g2).add (j := 0) (by decide))) (fun R => ⟨_, cel_canal tc ad (isCanal_of g2) R⟩) rfl rfl rfl (Nat.le_of_ble_eq_true rfl) ⟨Nat.le_of_ble_eq_true rfl, Nat.le_of_ble_eq_true rfl⟩ ⟨Nat.zero_le _, Nat.zero_le _⟩ dX12_collect_10 (fun r4 M3 h => ?_)
  obtain ⟨b5, h⟩ := h
  refine ra_callVS (rest := []) E (c_X12_requireState _ _ _ h) (lq_X12 _) ct_X12_requireState ml_X12_285 (by decide) rfl rfl (Nat.le_of_ble_eq_true rfl) ⟨Nat.le_of_ble_eq_true rfl, Nat.le_of_ble_eq_true rfl⟩ ⟨Nat.zero_le _, Nat.zero_le _⟩ dX12_collect_13 (fun M6 h => ?_)
  refine ra_aload_n E dX12_collect_16 rfl 0 rfl ?_
  refine gf_X12_2 E fl_X12_26 dX12_collect_17 ?_
  refine ra_aload_n E dX12_collect_20 rfl 0 rfl ?_
  obtain ⟨g7, h⟩ := h
  refine gf_X12_5 E fl_X12_41 dX12_collect_21 ?_
  refine ra_callVV (rest := []) E (c_X5_remember _ (isCanal_of g7) _ _ h) (lq_X5 _) cv_X5_remember ml_X12_289 (by decide) (lm (by decide)) (fun R => ⟨_, cel_25 tc ad R⟩) rfl rfl rfl (Nat.le_of_ble_eq_true rfl) ⟨Nat.le_of_ble_eq_true rfl, Nat.le_of_ble_eq_true rfl⟩ ⟨Nat.zero_le _, Nat.zero_le _⟩ dX12_collect_24 (fun M8 h => ?_)
  refine ra_aload_n E dX12_collect_27 rfl 0 rfl ?_
  refine ra_iload_n E dX12_collect_28 rfl 1 rfl ?_
  refine ra_callAV (rest := []) E (c_X12_bargeAt _ _ _ h) (lq_X12 _) cv_X12_bargeAt ml_X12_144 (by decide) (lm (by decide)) (fun R => ⟨_, cel_0 tc ad R⟩) rfl rfl rfl (Nat.le_of_ble_eq_true rfl) ⟨Nat.le_of_ble_eq_true rfl, Nat.le_of_ble_eq_true rfl⟩ ⟨Nat.zero_le _, Nat.zero_le _⟩ dX12_collect_29 (fun o10 M9 h => ?_)
  obtain ⟨q13, q15⟩ := h
  obtain ⟨x11, g12, q13⟩ := q13
  replace h := q15 x11 g12 q13
  subst q13
  refine gf_X1_6 E g12 fl_X12_168 dX12_collect_32 ?_
  refine ra_istore_n (L' := [(2, _), (0, _), (1, _)]) E dX12_collect_35 rfl (by decide) rfl ?_
  refine ra_aload_n E dX12_collect_36 rfl 1 rfl ?_
  obtain ⟨g16, h⟩ := h
  refine gf_X12_5 E fl_X12_41 dX12_collect_37 ?_
  refine ra_iload_n E dX12_collect_40 rfl 2 rfl ?_
  refine ra_callVV (rest := []) E (c_X2_gather _ (isCanal_of g16) _ _ _ h) (lq_X2 _) cv_X2_gather ml_X12_324 (by decide) (lm ((isCanal_of g16).add (j := 0) (by decide))) (fun R => ⟨_, cel_canal tc ad (isCanal_of g16) R⟩) rfl rfl rfl (Nat.le_of_ble_eq_true rfl) ⟨Nat.le_of_ble_eq_true rfl, Nat.le_of_ble_eq_true rfl⟩ ⟨Nat.zero_le _, Nat.zero_le _⟩ dX12_collect_41 (fun M17 h => ?_)
  refine ra_aload_n E dX12_collect_44 rfl 1 rfl ?_
  refine ra_iload_n E dX12_collect_45 rfl 2 rfl ?_
  refine ra_callAV (rest := []) E (c_X12_bargeAt _ _ _ h) (lq_X12 _) cv_X12_bargeAt ml_X12_144 (by decide) (lm (by decide)) (fun R => ⟨_, cel_0 tc ad R⟩) rfl rfl rfl (Nat.le_of_ble_eq_true rfl) ⟨Nat.le_of_ble_eq_true rfl, Nat.le_of_ble_eq_true rfl⟩ ⟨Nat.zero_le _, Nat.zero_le _⟩ dX12_collect_46 (fun o19 M18 h => ?_)
  obtain ⟨q22, q24⟩ := h
  obtain ⟨x20, g21, q22⟩ := q22
  replace h := q24 x20 g21 q22
  subst q22
  refine gf_X1_6 E g21 fl_X12_168 dX12_collect_49 ?_
  refine ra_iload_n E dX12_collect_52 rfl 0 rfl ?_
  refine ra_isub E dX12_collect_53 ?_
  exact ra_iret E hr dX12_collect_54 h
def f_X12_wash (p1 : Int32) (M : TM) (K : Int32 → TM → Prop) : Prop := f_X12_requireBarge p1 M (fun M1 => vp_in (M1 0 5) 11 ∧ f_X2_isInHarbor (27 + 61 * (M1 0 5).toNatClampNeg) p1 M1 (fun r4 M3 => f_X12_requireState r4 M3 (fun M6 => vp_in (M6 0 5) 11 ∧ f_X5_remember (27 + 61 * (M6 0 5).toNatClampNeg) M6 (fun M8 => vp_in (M8 0 5) 11 ∧ f_X2_clean (27 + 61 * (M8 0 5).toNatClampNeg) p1 M8 (fun M10 => f_X12_bargeAt p1 M10 (fun o12 M11 => (∃ x13, IsBarge x13 ∧ o12 = some x13) ∧ (∀ x13, IsBarge x13 → o12 = some x13 → K (M11 x13 5) M11)))))))
set_option maxRecDepth 100000 in
set_option maxHeartbeats 4000000 in
theorem c_X12_wash {ad : Nat → Nat} (p1 : Int32) (M : TM) (K : Int32 → TM → Prop) (h : f_X12_wash p1 M K) : MI yX12_wash cX12_wash 2 (some .int) 4 ad [.ref (ad 0), .int p1] M K := by
  refine MI_of RX12 rfl (by decide +kernel) (Nat.le_of_ble_eq_true rfl) (fun p l e s m below meth c D tc E hr => ?_)
  unfold f_X12_wash at h
  refine ra_aload_n E dX12_wash_0 rfl 0 rfl ?_
  refine ra_iload_n E dX12_wash_1 rfl 1 rfl ?_
  refine ra_callVV (rest := []) E (c_X12_requireBarge _ _ _ h) (lq_X12 _) cv_X12_requireBarge ml_X12_177 (by decide) (lm (by decide)) (fun R => ⟨_, cel_0 tc ad R⟩) rfl rfl rfl (Nat.le_of_ble_eq_true rfl) ⟨Nat.le_of_ble_eq_true rfl, Nat.le_of_ble_eq_true rfl⟩ ⟨Nat.zero_le _, Nat.zero_le _⟩ dX12_wash_2 (fun M1 h => ?_)
  refine ra_aload_n E dX12_wash_5 rfl 0 rfl ?_
  obtain ⟨g2, h⟩ := h
  refine gf_X12_5 E fl_X12_41 dX12_wash_6 ?_
  refine ra_iload_n E dX12_wash_9 rfl 1 rfl ?_
  refine ra_callIV (rest := []) E (c_X2_isInHarbor _ (isCanal_of g2) _ _ _ h) (lq_X2 _) cv_X2_isInHarbor ml_X12_327 (by decide) (lm ((isCanal_of g2).add (j := 0) (by decide))) (fun R => ⟨_, cel_canal tc ad (isCanal_of g2) R⟩) rfl rfl rfl (Nat.le_of_ble_eq_true rfl) ⟨Nat.le_of_ble_eq_true rfl, Nat.le_of_ble_eq_true rfl⟩ ⟨Nat.zero_le _, Nat.zero_le _⟩ dX12_wash_10 (fun r4 M3 h => ?_)
  obtain ⟨b5, h⟩ := h
  refine ra_callVS (rest := []) E (c_X12_requireState _ _ _ h) (lq_X12 _) ct_X12_requireState ml_X12_285 (by decide) rfl rfl (Nat.le_of_ble_eq_true rfl) ⟨Nat.le_of_ble_eq_true rfl, Nat.le_of_ble_eq_true rfl⟩ ⟨Nat.zero_le _, Nat.zero_le _⟩ dX12_wash_13 (fun M6 h => ?_)
  refine ra_aload_n E dX12_wash_16 rfl 0 rfl ?_
  refine gf_X12_2 E fl_X12_26 dX12_wash_17 ?_
  refine ra_aload_n E dX12_wash_20 rfl 0 rfl ?_
  obtain ⟨g7, h⟩ := h
  refine gf_X12_5 E fl_X12_41 dX12_wash_21 ?_
  refine ra_callVV (rest := []) E (c_X5_remember _ (isCanal_of g7) _ _ h) (lq_X5 _) cv_X5_remember ml_X12_289 (by decide) (lm (by decide)) (fun R => ⟨_, cel_25 tc ad R⟩) rfl rfl rfl (Nat.le_of_ble_eq_true rfl) ⟨Nat.le_of_ble_eq_true rfl, Nat.le_of_ble_eq_true rfl⟩ ⟨Nat.zero_le _, Nat.zero_le _⟩ dX12_wash_24 (fun M8 h => ?_)
  refine ra_aload_n E dX12_wash_27 rfl 0 rfl ?_
  obtain ⟨g9, h⟩ := h
  refine gf_X12_5 E fl_X12_41 dX12_wash_28 ?_
  refine ra_iload_n E dX12_wash_31 rfl 1 rfl ?_
  refine ra_callVV (rest := []) E (c_X2_clean _ (isCanal_of g9) _ _ _ h) (lq_X2 _) cv_X2_clean ml_X12_330 (by decide) (lm ((isCanal_of g9).add (j := 0) (by decide))) (fun R => ⟨_, cel_canal tc ad (isCanal_of g9) R⟩) rfl rfl rfl (Nat.le_of_ble_eq_true rfl) ⟨Nat.le_of_ble_eq_true rfl, Nat.le_of_ble_eq_true rfl⟩ ⟨Nat.zero_le _, Nat.zero_le _⟩ dX12_wash_32 (fun M10 h => ?_)
  refine ra_aload_n E dX12_wash_35 rfl 0 rfl ?_
  refine ra_iload_n E dX12_wash_36 rfl 1 rfl ?_
  refine ra_callAV (rest := []) E (c_X12_bargeAt _ _ _ h) (lq_X12 _) cv_X12_bargeAt ml_X12_144 (by decide) (lm (by decide)) (fun R => ⟨_, cel_0 tc ad R⟩) rfl rfl rfl (Nat.le_of_ble_eq_true rfl) ⟨Nat.le_of_ble_eq_true rfl, Nat.le_of_ble_eq_true rfl⟩ ⟨Nat.zero_le _, Nat.zero_le _⟩ dX12_wash_37 (fun o12 M11 h => ?_)
  obtain ⟨q15, q17⟩ := h
  obtain ⟨x13, g14, q15⟩ := q15
  replace h := q17 x13 g14 q15
  subst q15
  refine gf_X1_5 E g14 fl_X12_165 dX12_wash_40 ?_
  exact ra_iret E hr dX12_wash_43 h
def f_J0_charAt_5068e (a0 : Nat) (p1 : Int32) (M : TM) (K : Int32 → TM → Prop) : Prop := f_J0_isLatin1_aae02 a0 M (fun r2 M1 => ((r2 = 0 → False) ∧ (¬ r2 = 0 → f_J1_charAt_3b067 a0 p1 M1 (fun r6 M5 => K r6 M5))))
set_option maxRecDepth 100000 in
set_option maxHeartbeats 4000000 in
theorem c_J0_charAt_5068e {ad : Nat → Nat} (a0 : Nat) (h0 : a0 < nS) (p1 : Int32) (M : TM) (K : Int32 → TM → Prop) (h : f_J0_charAt_5068e a0 p1 M K) : MI yJ0_charAt_5068e cJ0_charAt_5068e 2 (some .char) 3 ad [.ref (ad (2200 + a0)), .int p1] M (fun r M' => narrow .char (.int r) = .int r ∧ K r M') := by
  refine MI_of RJ0 rfl (by decide +kernel) (Nat.le_of_ble_eq_true rfl) (fun p l e s m below meth c D tc E hr => ?_)
  unfold f_J0_charAt_5068e at h
  refine ra_aload_n E dJ0_charAt_5068e_0 rfl 0 rfl ?_
  refine ra_callIR (rest := []) E (c_J0_isLatin1_aae02 _ h0 _ _ h) (lq_J0 _) cv_J0_isLatin1_aae02 ml_J0_492 (by decide) (rv_str E h0) rfl rfl (Nat.le_of_ble_eq_true rfl) ⟨Nat.le_of_ble_eq_true rfl, Nat.le_of_ble_eq_true rfl⟩ ⟨Nat.zero_le _, Nat.zero_le _⟩ dJ0_charAt_5068e_1 (fun r2 M1 h => ?_)
  obtain ⟨b3, h⟩ := h
  refine ra_if_eq (tgt := 16) E dJ0_charAt_5068e_4 (by decide) (fun q4 => ?_) (fun q4 => ?_)
  · replace h := h.1 q4
    exact h.elim
  · replace h := h.2 q4
    refine ra_aload_n E dJ0_charAt_5068e_7 rfl 0 rfl ?_
    refine gf_sval E h0 fl_J0_9 dJ0_charAt_5068e_8 ?_
    refine ra_iload_n E dJ0_charAt_5068e_11 rfl 1 rfl ?_
    refine ra_callIS (rest := []) E (c_J1_charAt_3b067 _ h0 _ _ _ h) (lq_J1 _) ct_J1_charAt_3b067 ml_J0_495 (by decide) rfl rfl (Nat.le_of_ble_eq_true rfl) ⟨Nat.le_of_ble_eq_true rfl, Nat.le_of_ble_eq_true rfl⟩ ⟨Nat.zero_le _, Nat.zero_le _⟩ dJ0_charAt_5068e_12 (fun r6 M5 h => ?_)
    obtain ⟨b7, h⟩ := h
    exact ra_zret E hr b7 dJ0_charAt_5068e_15 ⟨b7, h⟩
def f_L_pairs_L34  (K : Int32 → TM → Prop) : Nat → Int32 → Int32 → TM → Prop
  | 0, _, _, _ => False
  | n + 1, x1, x2, M => f_X12_placeCount M (fun r5 M4 => ((r5 ≤ x2 → K x1 M4) ∧ (¬ r5 ≤ x2 → f_X12_usedPairs x2 M4 (fun r8 M7 => f_L_pairs_L34 K n (x1 + r8) (x2 + 1) M7))))
set_option maxRecDepth 100000 in
set_option maxHeartbeats 4000000 in
theorem l_L_pairs_L34 {p : Program} {l : Launch} {e : Env} {s : State} {m : MethodId} {args : Array Value} {below : List Frame} {meth : Method} {c : Code} {D : va_G} {tc : Nat → ClassId} {ad : Nat → Nat}  {K : Int32 → TM → Prop} (E : Ev p s m args meth c D tc ad RL cL_pairs 3) (hr : meth.sig.returnType = (some .int)) : ∀ (n : Nat) (x1 : Int32) (x2 : Int32) (M : TM) , f_L_pairs_L34  K n x1 x2 M → Wa p l e (rmD 4) s m args below meth c 0 0 (MQ below (va_Qi K (EndW D tc ad) (A0 ad s.heap.size)) args s 0 0 (A0 ad s.heap.size)) D tc ad 3 M 34 [(0, .ref (ad 0)), (1, .int x1), (2, .int x2)] [] := by
  intro n
  induction n with
  | zero => intro x1 x2 M  h; exact h.elim
  | succ n ih =>
    intro x1 x2 M  h
    unfold f_L_pairs_L34 at h
    refine ra_iload_n E dL_pairs_34 rfl 2 rfl ?_
    refine ra_aload_n E dL_pairs_35 rfl 0 rfl ?_
    refine ra_callIV (rest := [_]) E (c_X12_placeCount _ _ h) (lq_X12 _) cv_X12_placeCount ml_L_36 (by decide) (lm (by decide)) (fun R => ⟨_, cel_0 tc ad R⟩) rfl rfl rfl (Nat.le_of_ble_eq_true rfl) ⟨Nat.le_of_ble_eq_true rfl, Nat.le_of_ble_eq_true rfl⟩ ⟨Nat.zero_le _, Nat.zero_le _⟩ dL_pairs_36 (fun r5 M4 h => ?_)
    refine ra_icmp_ge (tgt := 56) E dL_pairs_39 (by decide) (fun q6 => ?_) (fun q6 => ?_)
    · replace h := h.1 q6
      refine ra_iload_n E dL_pairs_56 rfl 1 rfl ?_
      exact ra_iret E hr dL_pairs_57 h
    · replace h := h.2 q6
      refine ra_iload_n E dL_pairs_42 rfl 1 rfl ?_
      refine ra_aload_n E dL_pairs_43 rfl 0 rfl ?_
      refine ra_iload_n E dL_pairs_44 rfl 2 rfl ?_
      refine ra_callIV (rest := [_]) E (c_X12_usedPairs _ _ _ h) (lq_X12 _) cv_X12_usedPairs ml_L_93 (by decide) (lm (by decide)) (fun R => ⟨_, cel_0 tc ad R⟩) rfl rfl rfl (Nat.le_of_ble_eq_true rfl) ⟨Nat.le_of_ble_eq_true rfl, Nat.le_of_ble_eq_true rfl⟩ ⟨Nat.zero_le _, Nat.zero_le _⟩ dL_pairs_45 (fun r8 M7 h => ?_)
      refine ra_iadd E dL_pairs_48 ?_
      refine ra_istore_n (L' := [(1, _), (0, _), (2, _)]) E dL_pairs_49 rfl (by decide) rfl ?_
      refine ra_iinc1 (L' := [(2, _), (1, _), (0, _)]) E dL_pairs_50 2 rfl (by decide) rfl ?_
      refine ra_goto (tgt := 34) E dL_pairs_53 (by decide) ?_
      exact ra_sub (L' := [(0, _), (1, _), (2, _)]) [2, 1, 0] rfl (ih _ _ _ h)
def f_L_pairs_L4  (K : Int32 → TM → Prop) : Nat → Int32 → Int32 → TM → Prop
  | 0, _, _, _ => False
  | n + 1, x1, x2, M => f_X12_bargeCount M (fun r2 M1 => ((r2 ≤ x2 → ∃ n34, f_L_pairs_L34 K n34 x1 (0 : Int32) M1) ∧ (¬ r2 ≤ x2 → f_X12_cleanPairs x2 M1 (fun r11 M10 => f_X12_dirtyPairs x2 M10 (fun r13 M12 => f_L_pairs_L4 K n (x1 + (r11 + r13)) (x2 + 1) M12)))))
set_option maxRecDepth 100000 in
set_option maxHeartbeats 4000000 in
theorem l_L_pairs_L4 {p : Program} {l : Launch} {e : Env} {s : State} {m : MethodId} {args : Array Value} {below : List Frame} {meth : Method} {c : Code} {D : va_G} {tc : Nat → ClassId} {ad : Nat → Nat}  {K : Int32 → TM → Prop} (E : Ev p s m args meth c D tc ad RL cL_pairs 3) (hr : meth.sig.returnType = (some .int)) : ∀ (n : Nat) (x1 : Int32) (x2 : Int32) (M : TM) , f_L_pairs_L4  K n x1 x2 M → Wa p l e (rmD 4) s m args below meth c 0 0 (MQ below (va_Qi K (EndW D tc ad) (A0 ad s.heap.size)) args s 0 0 (A0 ad s.heap.size)) D tc ad 3 M 4 [(0, .ref (ad 0)), (1, .int x1), (2, .int x2)] [] := by
  intro n
  induction n with
  | zero => intro x1 x2 M  h; exact h.elim
  | succ n ih =>
    intro x1 x2 M  h
    unfold f_L_pairs_L4 at h
    refine ra_iload_n E dL_pairs_4 rfl 2 rfl ?_
    refine ra_aload_n E dL_pairs_5 rfl 0 rfl ?_
    refine ra_callIV (rest := [_]) E (c_X12_bargeCount _ _ h) (lq_X12 _) cv_X12_bargeCount ml_L_30 (by decide) (lm (by decide)) (fun R => ⟨_, cel_0 tc ad R⟩) rfl rfl rfl (Nat.le_of_ble_eq_true rfl) ⟨Nat.le_of_ble_eq_true rfl, Nat.le_of_ble_eq_true rfl⟩ ⟨Nat.zero_le _, Nat.zero_le _⟩ dL_pairs_6 (fun r2 M1 h => ?_)
    refine ra_icmp_ge (tgt := 32) E dL_pairs_9 (by decide) (fun q3 => ?_) (fun q3 => ?_)
    · replace h := h.1 q3
      refine ra_iconst E dL_pairs_32 ki_0 ?_
      refine ra_istore_n (L' := [(2, _), (0, _), (1, _)]) E dL_pairs_33 rfl (by decide) rfl ?_
      obtain ⟨n9, h⟩ := h
      exact ra_sub (L' := [(0, _), (1, _), (2, _)]) [1, 2, 0] rfl (l_L_pairs_L34 E hr n9 _ _ _ h)
    · replace h := h.2 q3
      refine ra_iload_n E dL_pairs_12 rfl 1 rfl ?_
      refine ra_aload_n E dL_pairs_13 rfl 0 rfl ?_
      refine ra_iload_n E dL_pairs_14 rfl 2 rfl ?_
      refine ra_callIV (rest := [_]) E (c_X12_cleanPairs _ _ _ h) (lq_X12 _) cv_X12_cleanPairs ml_L_64 (by decide) (lm (by decide)) (fun R => ⟨_, cel_0 tc ad R⟩) rfl rfl rfl (Nat.le_of_ble_eq_true rfl) ⟨Nat.le_of_ble_eq_true rfl, Nat.le_of_ble_eq_true rfl⟩ ⟨Nat.zero_le _, Nat.zero_le _⟩ dL_pairs_15 (fun r11 M10 h => ?_)
      refine ra_aload_n E dL_pairs_18 rfl 0 rfl ?_
      refine ra_iload_n E dL_pairs_19 rfl 2 rfl ?_
      refine ra_callIV (rest := [_, _]) E (c_X12_dirtyPairs _ _ _ h) (lq_X12 _) cv_X12_dirtyPairs ml_L_67 (by decide) (lm (by decide)) (fun R => ⟨_, cel_0 tc ad R⟩) rfl rfl rfl (Nat.le_of_ble_eq_true rfl) ⟨Nat.le_of_ble_eq_true rfl, Nat.le_of_ble_eq_true rfl⟩ ⟨Nat.zero_le _, Nat.zero_le _⟩ dL_pairs_20 (fun r13 M12 h => ?_)
      refine ra_iadd E dL_pairs_23 ?_
      refine ra_iadd E dL_pairs_24 ?_
      refine ra_istore_n (L' := [(1, _), (0, _), (2, _)]) E dL_pairs_25 rfl (by decide) rfl ?_
      refine ra_iinc1 (L' := [(2, _), (1, _), (0, _)]) E dL_pairs_26 2 rfl (by decide) rfl ?_
      refine ra_goto (tgt := 4) E dL_pairs_29 (by decide) ?_
      exact ra_sub (L' := [(0, _), (1, _), (2, _)]) [2, 1, 0] rfl (ih _ _ _ h)
def f_L_pairs  (M : TM) (K : Int32 → TM → Prop) : Prop := ∃ n4, f_L_pairs_L4 K n4 (0 : Int32) (0 : Int32) M
set_option maxRecDepth 100000 in
set_option maxHeartbeats 4000000 in
theorem c_L_pairs {ad : Nat → Nat}  (M : TM) (K : Int32 → TM → Prop) (h : f_L_pairs  M K) : MI yL_pairs cL_pairs 3 (some .int) 4 ad [.ref (ad 0)] M K := by
  refine MI_of RL rfl (by decide +kernel) (Nat.le_of_ble_eq_true rfl) (fun p l e s m below meth c D tc E hr => ?_)
  unfold f_L_pairs at h
  refine ra_iconst E dL_pairs_0 ki_0 ?_
  refine ra_istore_n (L' := [(1, _), (0, _)]) E dL_pairs_1 rfl (by decide) rfl ?_
  refine ra_iconst E dL_pairs_2 ki_0 ?_
  refine ra_istore_n (L' := [(2, _), (1, _), (0, _)]) E dL_pairs_3 rfl (by decide) rfl ?_
  obtain ⟨n14, h⟩ := h
  exact ra_sub (L' := [(0, _), (1, _), (2, _)]) [2, 1, 0] rfl (l_L_pairs_L4 E hr n14 _ _ _ h)
def f_DJ0_charAt_5068e (n9 : Nat) (p1 : Int32) (M : TM) (K : Int32 → TM → Prop) : Prop := f_DJ0_isLatin1_aae02 n9 M (fun r2 M1 => ((r2 = 0 → False) ∧ (¬ r2 = 0 → f_DJ1_charAt_3b067 n9 p1 M1 (fun r6 M5 => K r6 M5))))
set_option maxRecDepth 100000 in
set_option maxHeartbeats 4000000 in
theorem c_DJ0_charAt_5068e {ad : Nat → Nat} (h700 : 702 ≤ nW ad) (n9 : Nat) (h9 : ad 1701 = n9) (p1 : Int32) (M : TM) (K : Int32 → TM → Prop) (h : f_DJ0_charAt_5068e n9 p1 M K) : MI yJ0_charAt_5068e cJ0_charAt_5068e 2 (some .char) 3 ad [.ref (ad 700), .int p1] M (fun r M' => narrow .char (.int r) = .int r ∧ K r M') := by
  refine MI_of RJ0 rfl (by decide +kernel) (Nat.le_of_ble_eq_true rfl) (fun p l e s m below meth c D tc E hr => ?_)
  unfold f_DJ0_charAt_5068e at h
  refine ra_aload_n E dJ0_charAt_5068e_0 rfl 0 rfl ?_
  refine ra_callIVW (rest := []) E (c_DJ0_isLatin1_aae02 h700 _ h9 _ _ h) (lq_J0 _) cv_J0_isLatin1_aae02 ml_J0_492 (by decide) (Nat.lt_of_lt_of_le (by decide) h700) (fun R => ⟨_, cel_700 tc ad R⟩) rfl rfl rfl (Nat.le_of_ble_eq_true rfl) ⟨Nat.le_of_ble_eq_true rfl, Nat.le_of_ble_eq_true rfl⟩ ⟨Nat.zero_le _, Nat.zero_le _⟩ dJ0_charAt_5068e_1 (fun r2 M1 h => ?_)
  obtain ⟨b3, h⟩ := h
  refine ra_if_eq (tgt := 16) E dJ0_charAt_5068e_4 (by decide) (fun q4 => ?_) (fun q4 => ?_)
  · replace h := h.1 q4
    exact h.elim
  · replace h := h.2 q4
    refine ra_aload_n E dJ0_charAt_5068e_7 rfl 0 rfl ?_
    refine gf_J0_0 E (Nat.lt_of_lt_of_le (by decide) h700) fl_J0_9 dJ0_charAt_5068e_8 ?_
    refine ra_iload_n E dJ0_charAt_5068e_11 rfl 1 rfl ?_
    refine ra_callIS (rest := []) E (c_DJ1_charAt_3b067 h700 _ h9 _ _ _ h) (lq_J1 _) ct_J1_charAt_3b067 ml_J0_495 (by decide) rfl rfl (Nat.le_of_ble_eq_true rfl) ⟨Nat.le_of_ble_eq_true rfl, Nat.le_of_ble_eq_true rfl⟩ ⟨Nat.zero_le _, Nat.zero_le _⟩ dJ0_charAt_5068e_12 (fun r6 M5 h => ?_)
    obtain ⟨b7, h⟩ := h
    exact ra_zret E hr b7 dJ0_charAt_5068e_15 ⟨b7, h⟩
def f_X2_passAtMost_L2 (a0 : Nat) (p1 : Int32) (K : TM → Prop) : Nat → Int32 → Int32 → TM → Prop
  | 0, _, _, _ => False
  | n + 1, x1, x2, M => ((x1 ≤ x2 → K M) ∧ (¬ x1 ≤ x2 → f_X2_canPass a0 (1 : Int32) M (fun r3 M2 => ((r3 = 0 → K M2) ∧ (¬ r3 = 0 → f_X2_moveBarges a0 M2 (fun M6 => f_X2_pullNoodles a0 M6 (fun M7 => f_X2_serveOrders a0 M7 (fun M8 => f_X2_expireOrders a0 M8 (fun M9 => ∀ M10, M10 = u2 M9 a0 8 ((M9 a0 8) + (1 : Int32)) → f_X2_passAtMost_L2 a0 p1 K n x1 (x2 + 1) M10)))))))))
set_option maxRecDepth 100000 in
set_option maxHeartbeats 4000000 in
theorem l_X2_passAtMost_L2 {p : Program} {l : Launch} {e : Env} {s : State} {m : MethodId} {args : Array Value} {below : List Frame} {meth : Method} {c : Code} {D : va_G} {tc : Nat → ClassId} {ad : Nat → Nat} (a0 : Nat) (h0 : IsCanal a0) (p1 : Int32) {K : TM → Prop} (E : Ev p s m args meth c D tc ad RX2 cX2_passAtMost 3) (hr : meth.sig.returnType = none) : ∀ (n : Nat) (x1 : Int32) (x2 : Int32) (M : TM) , f_X2_passAtMost_L2 a0 p1 K n x1 x2 M → Wa p l e (rmD 3) s m args below meth c 0 0 (MQ below (va_Qv K (EndW D tc ad) (A0 ad s.heap.size)) args s 0 0 (A0 ad s.heap.size)) D tc ad 3 M 2 [(0, .ref (ad a0)), (1, .int x1), (2, .int x2)] [] := by
  intro n
  induction n with
  | zero => intro x1 x2 M  h; exact h.elim
  | succ n ih =>
    intro x1 x2 M  h
    unfold f_X2_passAtMost_L2 at h
    refine ra_iload_n E dX2_passAtMost_2 rfl 2 rfl ?_
    refine ra_iload_n E dX2_passAtMost_3 rfl 1 rfl ?_
    refine ra_icmp_ge (tgt := 47) E dX2_passAtMost_4 (by decide) (fun q1 => ?_) (fun q1 => ?_)
    · replace h := h.1 q1
      exact ra_vret E hr dX2_passAtMost_47 h
    · replace h := h.2 q1
      refine ra_aload_n E dX2_passAtMost_7 rfl 0 rfl ?_
      refine ra_iconst E dX2_passAtMost_8 ki_1 ?_
      refine ra_callIV (rest := []) E (c_X2_canPass _ h0 _ _ _ h) (lq_X2 _) cv_X2_canPass ml_X2_225 (by decide) (lm (h0.add (j := 0) (by decide))) (fun R => ⟨_, cel_canal tc ad h0 R⟩) rfl rfl rfl (Nat.le_of_ble_eq_true rfl) ⟨Nat.le_of_ble_eq_true rfl, Nat.le_of_ble_eq_true rfl⟩ ⟨Nat.zero_le _, Nat.zero_le _⟩ dX2_passAtMost_9 (fun r3 M2 h => ?_)
      obtain ⟨b4, h⟩ := h
      refine ra_if_eq (tgt := 47) E dX2_passAtMost_12 (by decide) (fun q5 => ?_) (fun q5 => ?_)
      · replace h := h.1 q5
        exact ra_vret E hr dX2_passAtMost_47 h
      · replace h := h.2 q5
        refine ra_aload_n E dX2_passAtMost_15 rfl 0 rfl ?_
        refine ra_callVV (rest := []) E (c_X2_moveBarges _ h0 _ _ h) (lq_X2 _) cv_X2_moveBarges ml_X2_228 (by decide) (lm (h0.add (j := 0) (by decide))) (fun R => ⟨_, cel_canal tc ad h0 R⟩) rfl rfl rfl (Nat.le_of_ble_eq_true rfl) ⟨Nat.le_of_ble_eq_true rfl, Nat.le_of_ble_eq_true rfl⟩ ⟨Nat.zero_le _, Nat.zero_le _⟩ dX2_passAtMost_16 (fun M6 h => ?_)
        refine ra_aload_n E dX2_passAtMost_19 rfl 0 rfl ?_
        refine ra_callVV (rest := []) E (c_X2_pullNoodles _ h0 _ _ h) (lq_X2 _) cv_X2_pullNoodles ml_X2_231 (by decide) (lm (h0.add (j := 0) (by decide))) (fun R => ⟨_, cel_canal tc ad h0 R⟩) rfl rfl rfl (Nat.le_of_ble_eq_true rfl) ⟨Nat.le_of_ble_eq_true rfl, Nat.le_of_ble_eq_true rfl⟩ ⟨Nat.zero_le _, Nat.zero_le _⟩ dX2_passAtMost_20 (fun M7 h => ?_)
        refine ra_aload_n E dX2_passAtMost_23 rfl 0 rfl ?_
        refine ra_callVV (rest := []) E (c_X2_serveOrders _ h0 _ _ h) (lq_X2 _) cv_X2_serveOrders ml_X2_234 (by decide) (lm (h0.add (j := 0) (by decide))) (fun R => ⟨_, cel_canal tc ad h0 R⟩) rfl rfl rfl (Nat.le_of_ble_eq_true rfl) ⟨Nat.le_of_ble_eq_true rfl, Nat.le_of_ble_eq_true rfl⟩ ⟨Nat.zero_le _, Nat.zero_le _⟩ dX2_passAtMost_24 (fun M8 h => ?_)
        refine ra_aload_n E dX2_passAtMost_27 rfl 0 rfl ?_
        refine ra_callVV (rest := []) E (c_X2_expireOrders _ h0 _ _ h) (lq_X2 _) cv_X2_expireOrders ml_X2_237 (by decide) (lm (h0.add (j := 0) (by decide))) (fun R => ⟨_, cel_canal tc ad h0 R⟩) rfl rfl rfl (Nat.le_of_ble_eq_true rfl) ⟨Nat.le_of_ble_eq_true rfl, Nat.le_of_ble_eq_true rfl⟩ ⟨Nat.zero_le _, Nat.zero_le _⟩ dX2_passAtMost_28 (fun M9 h => ?_)
        refine ra_aload_n E dX2_passAtMost_31 rfl 0 rfl ?_
        refine ra_dup E dX2_passAtMost_32 rfl ?_
        refine gf_X2_8 E h0 fl_X2_46 dX2_passAtMost_33 ?_
        refine ra_iconst E dX2_passAtMost_36 ki_1 ?_
        refine ra_iadd E dX2_passAtMost_37 ?_
        refine pf_X2_8 E h0 fl_X2_46 dX2_passAtMost_38 ?_
        replace h := h _ rfl
        refine ra_iinc1 (L' := [(2, _), (0, _), (1, _)]) E dX2_passAtMost_41 2 rfl (by decide) rfl ?_
        refine ra_goto (tgt := 2) E dX2_passAtMost_44 (by decide) ?_
        exact ra_sub (L' := [(0, _), (1, _), (2, _)]) [1, 2, 0] rfl (ih _ _ _ h)
def f_X2_passAtMost (a0 : Nat) (p1 : Int32) (M : TM) (K : TM → Prop) : Prop := ∃ n2, f_X2_passAtMost_L2 a0 p1 K n2 p1 (0 : Int32) M
set_option maxRecDepth 100000 in
set_option maxHeartbeats 4000000 in
theorem c_X2_passAtMost {ad : Nat → Nat} (a0 : Nat) (h0 : IsCanal a0) (p1 : Int32) (M : TM) (K : TM → Prop) (h : f_X2_passAtMost a0 p1 M K) : MV yX2_passAtMost cX2_passAtMost 3 3 ad [.ref (ad a0), .int p1] M K := by
  refine MV_of RX2 rfl (by decide +kernel) (Nat.le_of_ble_eq_true rfl) (fun p l e s m below meth c D tc E hr => ?_)
  unfold f_X2_passAtMost at h
  refine ra_iconst E dX2_passAtMost_0 ki_0 ?_
  refine ra_istore_n (L' := [(2, _), (0, _), (1, _)]) E dX2_passAtMost_1 rfl (by decide) rfl ?_
  obtain ⟨n11, h⟩ := h
  exact ra_sub (L' := [(0, _), (1, _), (2, _)]) [1, 2, 0] rfl (l_X2_passAtMost_L2 a0 h0 p1 E hr n11 _ _ _ h)
def f_X10_appendSigns_L2 (a1 : Nat) (K : TM → Prop) : Nat → Int32 → TM → Prop
  | 0, _, _ => False
  | n + 1, x2, M => f_J0_length_8abf5 a1 M (fun r2 M1 => ((r2 ≤ x2 → K M1) ∧ (¬ r2 ≤ x2 → f_J0_charAt_5068e a1 x2 M1 (fun r5 M4 => f_X10_appendByte r5 M4 (fun M7 => f_X10_appendSigns_L2 a1 K n (x2 + 1) M7)))))
set_option maxRecDepth 100000 in
set_option maxHeartbeats 4000000 in
theorem l_X10_appendSigns_L2 {p : Program} {l : Launch} {e : Env} {s : State} {m : MethodId} {args : Array Value} {below : List Frame} {meth : Method} {c : Code} {D : va_G} {tc : Nat → ClassId} {ad : Nat → Nat} (a1 : Nat) (h1 : a1 < nS) {K : TM → Prop} (E : Ev p s m args meth c D tc ad RX10 cX10_appendSigns 3) (hr : meth.sig.returnType = none) : ∀ (n : Nat) (x2 : Int32) (M : TM) , f_X10_appendSigns_L2 a1 K n x2 M → Wa p l e (rmD 4) s m args below meth c 0 0 (MQ below (va_Qv K (EndW D tc ad) (A0 ad s.heap.size)) args s 0 0 (A0 ad s.heap.size)) D tc ad 3 M 2 [(0, .ref (ad 1)), (1, .ref (ad (2200 + a1))), (2, .int x2)] [] := by
  intro n
  induction n with
  | zero => intro x2 M  h; exact h.elim
  | succ n ih =>
    intro x2 M  h
    unfold f_X10_appendSigns_L2 at h
    refine ra_iload_n E dX10_appendSigns_2 rfl 2 rfl ?_
    refine ra_aload_n E dX10_appendSigns_3 rfl 1 rfl ?_
    refine ra_callIR (rest := [_]) E (c_J0_length_8abf5 _ h1 _ _ h) (lq_J0 _) cv_J0_length_8abf5 ml_X10_41 (by decide) (rv_str E h1) rfl rfl (Nat.le_of_ble_eq_true rfl) ⟨Nat.le_of_ble_eq_true rfl, Nat.le_of_ble_eq_true rfl⟩ ⟨Nat.zero_le _, Nat.zero_le _⟩ dX10_appendSigns_4 (fun r2 M1 h => ?_)
    refine ra_icmp_ge (tgt := 25) E dX10_appendSigns_7 (by decide) (fun q3 => ?_) (fun q3 => ?_)
    · replace h := h.1 q3
      exact ra_vret E hr dX10_appendSigns_25 h
    · replace h := h.2 q3
      refine ra_aload_n E dX10_appendSigns_10 rfl 0 rfl ?_
      refine ra_aload_n E dX10_appendSigns_11 rfl 1 rfl ?_
      refine ra_iload_n E dX10_appendSigns_12 rfl 2 rfl ?_
      refine ra_callIR (rest := [_]) E (c_J0_charAt_5068e _ h1 _ _ _ h) (lq_J0 _) cv_J0_charAt_5068e ml_X10_46 (by decide) (rv_str E h1) rfl rfl (Nat.le_of_ble_eq_true rfl) ⟨Nat.le_of_ble_eq_true rfl, Nat.le_of_ble_eq_true rfl⟩ ⟨Nat.zero_le _, Nat.zero_le _⟩ dX10_appendSigns_13 (fun r5 M4 h => ?_)
      obtain ⟨b6, h⟩ := h
      refine ra_callVV (rest := []) E (c_X10_appendByte _ _ _ h) (lq_X10 _) cv_X10_appendByte ml_X10_37 (by decide) (lm (by decide)) (fun R => ⟨_, cel_1 tc ad R⟩) rfl rfl rfl (Nat.le_of_ble_eq_true rfl) ⟨Nat.le_of_ble_eq_true rfl, Nat.le_of_ble_eq_true rfl⟩ ⟨Nat.zero_le _, Nat.zero_le _⟩ dX10_appendSigns_16 (fun M7 h => ?_)
      refine ra_iinc1 (L' := [(2, _), (0, _), (1, _)]) E dX10_appendSigns_19 2 rfl (by decide) rfl ?_
      refine ra_goto (tgt := 2) E dX10_appendSigns_22 (by decide) ?_
      exact ra_sub (L' := [(0, _), (1, _), (2, _)]) [1, 2, 0] rfl (ih _ _ h)
def f_X10_appendSigns (a1 : Nat) (M : TM) (K : TM → Prop) : Prop := ∃ n2, f_X10_appendSigns_L2 a1 K n2 (0 : Int32) M
set_option maxRecDepth 100000 in
set_option maxHeartbeats 4000000 in
theorem c_X10_appendSigns {ad : Nat → Nat} (a1 : Nat) (h1 : a1 < nS) (M : TM) (K : TM → Prop) (h : f_X10_appendSigns a1 M K) : MV yX10_appendSigns cX10_appendSigns 3 4 ad [.ref (ad 1), .ref (ad (2200 + a1))] M K := by
  refine MV_of RX10 rfl (by decide +kernel) (Nat.le_of_ble_eq_true rfl) (fun p l e s m below meth c D tc E hr => ?_)
  unfold f_X10_appendSigns at h
  refine ra_iconst E dX10_appendSigns_0 ki_0 ?_
  refine ra_istore_n (L' := [(2, _), (0, _), (1, _)]) E dX10_appendSigns_1 rfl (by decide) rfl ?_
  obtain ⟨n8, h⟩ := h
  exact ra_sub (L' := [(0, _), (1, _), (2, _)]) [1, 2, 0] rfl (l_X10_appendSigns_L2 a1 h1 E hr n8 _ _ h)
def f_X10_isAtWord_L28 (a1 : Nat) (K : Int32 → TM → Prop) : Nat → Int32 → TM → Prop
  | 0, _, _ => False
  | n + 1, x2, M => f_J0_length_8abf5 a1 M (fun r9 M8 => ((r9 ≤ x2 → K (1 : Int32) M8) ∧ (¬ r9 ≤ x2 → (((500 : Int32) ≤ ((M8 1 4) + x2) → K (1 : Int32) M8) ∧ (¬ (500 : Int32) ≤ ((M8 1 4) + x2) → vp_in ((M8 1 4) + x2) 500 ∧ f_J0_charAt_5068e a1 x2 M8 (fun r14 M13 => (((M8 2 ((M8 1 4) + x2).toNatClampNeg) = r14 → f_X10_isAtWord_L28 a1 K n (x2 + 1) M13) ∧ (¬ (M8 2 ((M8 1 4) + x2).toNatClampNeg) = r14 → K (0 : Int32) M13))))))))
set_option maxRecDepth 100000 in
set_option maxHeartbeats 4000000 in
theorem l_X10_isAtWord_L28 {p : Program} {l : Launch} {e : Env} {s : State} {m : MethodId} {args : Array Value} {below : List Frame} {meth : Method} {c : Code} {D : va_G} {tc : Nat → ClassId} {ad : Nat → Nat} (a1 : Nat) (h1 : a1 < nS) {K : Int32 → TM → Prop} (E : Ev p s m args meth c D tc ad RX10 cX10_isAtWord 3) (hr : meth.sig.returnType = (some .boolean)) : ∀ (n : Nat) (x2 : Int32) (M : TM) , f_X10_isAtWord_L28 a1 K n x2 M → Wa p l e (rmD 4) s m args below meth c 0 0 (MQ below (va_Qi (fun r M' => (r = 0 ∨ r = 1) ∧ K r M') (EndW D tc ad) (A0 ad s.heap.size)) args s 0 0 (A0 ad s.heap.size)) D tc ad 3 M 28 [(0, .ref (ad 1)), (1, .ref (ad (2200 + a1))), (2, .int x2)] [] := by
  intro n
  induction n with
  | zero => intro x2 M  h; exact h.elim
  | succ n ih =>
    intro x2 M  h
    unfold f_X10_isAtWord_L28 at h
    refine ra_iload_n E dX10_isAtWord_28 rfl 2 rfl ?_
    refine ra_aload_n E dX10_isAtWord_29 rfl 1 rfl ?_
    refine ra_callIR (rest := [_]) E (c_J0_length_8abf5 _ h1 _ _ h) (lq_J0 _) cv_J0_length_8abf5 ml_X10_41 (by decide) (rv_str E h1) rfl rfl (Nat.le_of_ble_eq_true rfl) ⟨Nat.le_of_ble_eq_true rfl, Nat.le_of_ble_eq_true rfl⟩ ⟨Nat.zero_le _, Nat.zero_le _⟩ dX10_isAtWord_30 (fun r9 M8 h => ?_)
    refine ra_icmp_ge (tgt := 77) E dX10_isAtWord_33 (by decide) (fun q10 => ?_) (fun q10 => ?_)
    · replace h := h.1 q10
      refine ra_iconst E dX10_isAtWord_77 ki_1 ?_
      exact ra_zret E hr rfl dX10_isAtWord_78 ⟨Or.inr rfl, h⟩
    · replace h := h.2 q10
      refine ra_aload_n E dX10_isAtWord_36 rfl 0 rfl ?_
      refine gf_X10_4 E fl_X10_25 dX10_isAtWord_37 ?_
      refine ra_iload_n E dX10_isAtWord_40 rfl 2 rfl ?_
      refine ra_iadd E dX10_isAtWord_41 ?_
      refine ra_aload_n E dX10_isAtWord_42 rfl 0 rfl ?_
      refine gf_X10_0 E fl_X10_9 dX10_isAtWord_43 ?_
      refine ra_alen (n := 500) (v := 500) E (lm (by decide)) (fun R => ⟨_, (cel_2 tc ad) R, rfl⟩) rfl (by decide) dX10_isAtWord_46 ?_
      refine ra_icmp_ge (tgt := 77) E dX10_isAtWord_47 (by decide) (fun q11 => ?_) (fun q11 => ?_)
      · replace h := h.1 q11
        refine ra_iconst E dX10_isAtWord_77 ki_1 ?_
        exact ra_zret E hr rfl dX10_isAtWord_78 ⟨Or.inr rfl, h⟩
      · replace h := h.2 q11
        refine ra_aload_n E dX10_isAtWord_50 rfl 0 rfl ?_
        refine gf_X10_0 E fl_X10_9 dX10_isAtWord_51 ?_
        refine ra_aload_n E dX10_isAtWord_54 rfl 0 rfl ?_
        refine gf_X10_4 E fl_X10_25 dX10_isAtWord_55 ?_
        refine ra_iload_n E dX10_isAtWord_58 rfl 2 rfl ?_
        refine ra_iadd E dX10_isAtWord_59 ?_
        obtain ⟨g12, h⟩ := h
        refine ra_bald E (lm (by decide)) (cel_2 tc ad) g12 dX10_isAtWord_60 ?_
        refine ra_aload_n E dX10_isAtWord_61 rfl 1 rfl ?_
        refine ra_iload_n E dX10_isAtWord_62 rfl 2 rfl ?_
        refine ra_callIR (rest := [_]) E (c_J0_charAt_5068e _ h1 _ _ _ h) (lq_J0 _) cv_J0_charAt_5068e ml_X10_46 (by decide) (rv_str E h1) rfl rfl (Nat.le_of_ble_eq_true rfl) ⟨Nat.le_of_ble_eq_true rfl, Nat.le_of_ble_eq_true rfl⟩ ⟨Nat.zero_le _, Nat.zero_le _⟩ dX10_isAtWord_63 (fun r14 M13 h => ?_)
        obtain ⟨b15, h⟩ := h
        refine ra_icmp_eq (tgt := 71) E dX10_isAtWord_66 (by decide) (fun q16 => ?_) (fun q16 => ?_)
        · replace h := h.1 q16
          refine ra_iinc1 (L' := [(2, _), (0, _), (1, _)]) E dX10_isAtWord_71 2 rfl (by decide) rfl ?_
          refine ra_goto (tgt := 28) E dX10_isAtWord_74 (by decide) ?_
          exact ra_sub (L' := [(0, _), (1, _), (2, _)]) [1, 2, 0] rfl (ih _ _ h)
        · replace h := h.2 q16
          refine ra_iconst E dX10_isAtWord_69 ki_0 ?_
          exact ra_zret E hr rfl dX10_isAtWord_70 ⟨Or.inl rfl, h⟩
def f_X10_isAtWord (a1 : Nat) (M : TM) (K : Int32 → TM → Prop) : Prop := f_X10_isAt (3 : Int32) M (fun r2 M1 => ((r2 = 0 → K (0 : Int32) M1) ∧ (¬ r2 = 0 → f_J0_length_8abf5 a1 M1 (fun r6 M5 => ((((M1 1 5) - (M1 1 4)) = r6 → ∃ n28, f_X10_isAtWord_L28 a1 K n28 (0 : Int32) M5) ∧ (¬ ((M1 1 5) - (M1 1 4)) = r6 → K (0 : Int32) M5))))))
set_option maxRecDepth 100000 in
set_option maxHeartbeats 4000000 in
theorem c_X10_isAtWord {ad : Nat → Nat} (a1 : Nat) (h1 : a1 < nS) (M : TM) (K : Int32 → TM → Prop) (h : f_X10_isAtWord a1 M K) : MI yX10_isAtWord cX10_isAtWord 3 (some .boolean) 4 ad [.ref (ad 1), .ref (ad (2200 + a1))] M (fun r M' => (r = 0 ∨ r = 1) ∧ K r M') := by
  refine MI_of RX10 rfl (by decide +kernel) (Nat.le_of_ble_eq_true rfl) (fun p l e s m below meth c D tc E hr => ?_)
  unfold f_X10_isAtWord at h
  refine ra_aload_n E dX10_isAtWord_0 rfl 0 rfl ?_
  refine ra_iconst E dX10_isAtWord_1 ki_3 ?_
  refine ra_callIV (rest := []) E (c_X10_isAt _ _ _ h) (lq_X10 _) cv_X10_isAt ml_X10_67 (by decide) (lm (by decide)) (fun R => ⟨_, cel_1 tc ad R⟩) rfl rfl rfl (Nat.le_of_ble_eq_true rfl) ⟨Nat.le_of_ble_eq_true rfl, Nat.le_of_ble_eq_true rfl⟩ ⟨Nat.zero_le _, Nat.zero_le _⟩ dX10_isAtWord_2 (fun r2 M1 h => ?_)
  obtain ⟨b3, h⟩ := h
  refine ra_if_eq (tgt := 24) E dX10_isAtWord_5 (by decide) (fun q4 => ?_) (fun q4 => ?_)
  · replace h := h.1 q4
    refine ra_iconst E dX10_isAtWord_24 ki_0 ?_
    exact ra_zret E hr rfl dX10_isAtWord_25 ⟨Or.inl rfl, h⟩
  · replace h := h.2 q4
    refine ra_aload_n E dX10_isAtWord_8 rfl 0 rfl ?_
    refine gf_X10_5 E fl_X10_28 dX10_isAtWord_9 ?_
    refine ra_aload_n E dX10_isAtWord_12 rfl 0 rfl ?_
    refine gf_X10_4 E fl_X10_25 dX10_isAtWord_13 ?_
    refine ra_isub E dX10_isAtWord_16 ?_
    refine ra_aload_n E dX10_isAtWord_17 rfl 1 rfl ?_
    refine ra_callIR (rest := [_]) E (c_J0_length_8abf5 _ h1 _ _ h) (lq_J0 _) cv_J0_length_8abf5 ml_X10_41 (by decide) (rv_str E h1) rfl rfl (Nat.le_of_ble_eq_true rfl) ⟨Nat.le_of_ble_eq_true rfl, Nat.le_of_ble_eq_true rfl⟩ ⟨Nat.zero_le _, Nat.zero_le _⟩ dX10_isAtWord_18 (fun r6 M5 h => ?_)
    refine ra_icmp_eq (tgt := 26) E dX10_isAtWord_21 (by decide) (fun q7 => ?_) (fun q7 => ?_)
    · replace h := h.1 q7
      refine ra_iconst E dX10_isAtWord_26 ki_0 ?_
      refine ra_istore_n (L' := [(2, _), (0, _), (1, _)]) E dX10_isAtWord_27 rfl (by decide) rfl ?_
      obtain ⟨n17, h⟩ := h
      exact ra_sub (L' := [(0, _), (1, _), (2, _)]) [1, 2, 0] rfl (l_X10_isAtWord_L28 a1 h1 E hr n17 _ _ h)
    · replace h := h.2 q7
      refine ra_iconst E dX10_isAtWord_24 ki_0 ?_
      exact ra_zret E hr rfl dX10_isAtWord_25 ⟨Or.inl rfl, h⟩
def f_X10_readWord (a1 : Nat) (M : TM) (K : TM → Prop) : Prop := f_X10_isAtWord a1 M (fun r2 M1 => ((r2 = 0 → f_X10_fail (1 : Int32) M1 (fun M5 => K M5)) ∧ (¬ r2 = 0 → f_X10_advance M1 (fun M6 => K M6))))
set_option maxRecDepth 100000 in
set_option maxHeartbeats 4000000 in
theorem c_X10_readWord {ad : Nat → Nat} (a1 : Nat) (h1 : a1 < nS) (M : TM) (K : TM → Prop) (h : f_X10_readWord a1 M K) : MV yX10_readWord cX10_readWord 2 5 ad [.ref (ad 1), .ref (ad (2200 + a1))] M K := by
  refine MV_of RX10 rfl (by decide +kernel) (Nat.le_of_ble_eq_true rfl) (fun p l e s m below meth c D tc E hr => ?_)
  unfold f_X10_readWord at h
  refine ra_aload_n E dX10_readWord_0 rfl 0 rfl ?_
  refine ra_aload_n E dX10_readWord_1 rfl 1 rfl ?_
  refine ra_callIV (rest := []) E (c_X10_isAtWord _ h1 _ _ h) (lq_X10 _) cv_X10_isAtWord ml_X10_71 (by decide) (lm (by decide)) (fun R => ⟨_, cel_1 tc ad R⟩) rfl rfl rfl (Nat.le_of_ble_eq_true rfl) ⟨Nat.le_of_ble_eq_true rfl, Nat.le_of_ble_eq_true rfl⟩ ⟨Nat.zero_le _, Nat.zero_le _⟩ dX10_readWord_2 (fun r2 M1 h => ?_)
  obtain ⟨b3, h⟩ := h
  refine ra_if_eq (tgt := 15) E dX10_readWord_5 (by decide) (fun q4 => ?_) (fun q4 => ?_)
  · replace h := h.1 q4
    refine ra_aload_n E dX10_readWord_15 rfl 0 rfl ?_
    refine ra_iconst E dX10_readWord_16 ki_1 ?_
    refine ra_callVV (rest := []) E (c_X10_fail _ _ _ h) (lq_X10 _) cv_X10_fail ml_X10_75 (by decide) (lm (by decide)) (fun R => ⟨_, cel_1 tc ad R⟩) rfl rfl rfl (Nat.le_of_ble_eq_true rfl) ⟨Nat.le_of_ble_eq_true rfl, Nat.le_of_ble_eq_true rfl⟩ ⟨Nat.zero_le _, Nat.zero_le _⟩ dX10_readWord_17 (fun M5 h => ?_)
    exact ra_vret E hr dX10_readWord_20 h
  · replace h := h.2 q4
    refine ra_aload_n E dX10_readWord_8 rfl 0 rfl ?_
    refine ra_callVV (rest := []) E (c_X10_advance _ _ h) (lq_X10 _) cv_X10_advance ml_X10_56 (by decide) (lm (by decide)) (fun R => ⟨_, cel_1 tc ad R⟩) rfl rfl rfl (Nat.le_of_ble_eq_true rfl) ⟨Nat.le_of_ble_eq_true rfl, Nat.le_of_ble_eq_true rfl⟩ ⟨Nat.zero_le _, Nat.zero_le _⟩ dX10_readWord_9 (fun M6 h => ?_)
    refine ra_goto (tgt := 20) E dX10_readWord_12 (by decide) ?_
    exact ra_vret E hr dX10_readWord_20 h
def f_X12_minutesToTarget_L18 (p1 : Int32) (K : Int32 → TM → Prop) : Nat → Int32 → Int32 → TM → Prop
  | 0, _, _, _ => False
  | n + 1, x1, x2, M => (((200 : Int32) < x2 → K (-1 : Int32) M) ∧ (¬ (200 : Int32) < x2 → vp_in (M 0 6) 11 ∧ f_X2_isSailing (27 + 61 * (M 0 6).toNatClampNeg) x1 M (fun r8 M7 => ((¬ r8 = 0 → vp_in (M7 0 6) 11 ∧ f_X2_passAtMost (27 + 61 * (M7 0 6).toNatClampNeg) (1 : Int32) M7 (fun M12 => f_X12_minutesToTarget_L18 p1 K n x1 (x2 + 1) M12)) ∧ (r8 = 0 → K x2 M7)))))
set_option maxRecDepth 100000 in
set_option maxHeartbeats 4000000 in
theorem l_X12_minutesToTarget_L18 {p : Program} {l : Launch} {e : Env} {s : State} {m : MethodId} {args : Array Value} {below : List Frame} {meth : Method} {c : Code} {D : va_G} {tc : Nat → ClassId} {ad : Nat → Nat} (p1 : Int32) {K : Int32 → TM → Prop} (E : Ev p s m args meth c D tc ad RX12 cX12_minutesToTarget 3) (hr : meth.sig.returnType = (some .int)) : ∀ (n : Nat) (x1 : Int32) (x2 : Int32) (M : TM) , f_X12_minutesToTarget_L18 p1 K n x1 x2 M → Wa p l e (rmD 4) s m args below meth c 0 0 (MQ below (va_Qi K (EndW D tc ad) (A0 ad s.heap.size)) args s 0 0 (A0 ad s.heap.size)) D tc ad 3 M 18 [(0, .ref (ad 0)), (1, .int x1), (2, .int x2)] [] := by
  intro n
  induction n with
  | zero => intro x1 x2 M  h; exact h.elim
  | succ n ih =>
    intro x1 x2 M  h
    unfold f_X12_minutesToTarget_L18 at h
    refine ra_iload_n E dX12_minutesToTarget_18 rfl 2 rfl ?_
    refine ra_sipush E dX12_minutesToTarget_19 ks_200 ?_
    refine ra_icmp_gt (tgt := 52) E dX12_minutesToTarget_22 (by decide) (fun q5 => ?_) (fun q5 => ?_)
    · replace h := h.1 q5
      refine ra_iconst E dX12_minutesToTarget_52 ki_m1 ?_
      exact ra_iret E hr dX12_minutesToTarget_53 h
    · replace h := h.2 q5
      refine ra_aload_n E dX12_minutesToTarget_25 rfl 0 rfl ?_
      obtain ⟨g6, h⟩ := h
      refine gf_X12_6 E fl_X12_44 dX12_minutesToTarget_26 ?_
      refine ra_iload_n E dX12_minutesToTarget_29 rfl 1 rfl ?_
      refine ra_callIV (rest := []) E (c_X2_isSailing _ (isCanal_of g6) _ _ _ h) (lq_X2 _) cv_X2_isSailing ml_X12_262 (by decide) (lm ((isCanal_of g6).add (j := 0) (by decide))) (fun R => ⟨_, cel_canal tc ad (isCanal_of g6) R⟩) rfl rfl rfl (Nat.le_of_ble_eq_true rfl) ⟨Nat.le_of_ble_eq_true rfl, Nat.le_of_ble_eq_true rfl⟩ ⟨Nat.zero_le _, Nat.zero_le _⟩ dX12_minutesToTarget_30 (fun r8 M7 h => ?_)
      obtain ⟨b9, h⟩ := h
      refine ra_if_ne (tgt := 38) E dX12_minutesToTarget_33 (by decide) (fun q10 => ?_) (fun q10 => ?_)
      · replace h := h.1 q10
        refine ra_aload_n E dX12_minutesToTarget_38 rfl 0 rfl ?_
        obtain ⟨g11, h⟩ := h
        refine gf_X12_6 E fl_X12_44 dX12_minutesToTarget_39 ?_
        refine ra_iconst E dX12_minutesToTarget_42 ki_1 ?_
        refine ra_callVV (rest := []) E (c_X2_passAtMost _ (isCanal_of g11) _ _ _ h) (lq_X2 _) cv_X2_passAtMost ml_X12_265 (by decide) (lm ((isCanal_of g11).add (j := 0) (by decide))) (fun R => ⟨_, cel_canal tc ad (isCanal_of g11) R⟩) rfl rfl rfl (Nat.le_of_ble_eq_true rfl) ⟨Nat.le_of_ble_eq_true rfl, Nat.le_of_ble_eq_true rfl⟩ ⟨Nat.zero_le _, Nat.zero_le _⟩ dX12_minutesToTarget_43 (fun M12 h => ?_)
        refine ra_iinc1 (L' := [(2, _), (0, _), (1, _)]) E dX12_minutesToTarget_46 2 rfl (by decide) rfl ?_
        refine ra_goto (tgt := 18) E dX12_minutesToTarget_49 (by decide) ?_
        exact ra_sub (L' := [(0, _), (1, _), (2, _)]) [1, 2, 0] rfl (ih _ _ _ h)
      · replace h := h.2 q10
        refine ra_iload_n E dX12_minutesToTarget_36 rfl 2 rfl ?_
        exact ra_iret E hr dX12_minutesToTarget_37 h
def f_X12_minutesToTarget (p1 : Int32) (M : TM) (K : Int32 → TM → Prop) : Prop := f_X12_requireBarge p1 M (fun M1 => vp_in (M1 0 6) 11 ∧ vp_in (M1 0 5) 11 ∧ f_X2_copyFrom (27 + 61 * (M1 0 6).toNatClampNeg) (27 + 61 * (M1 0 5).toNatClampNeg) M1 (fun M4 => ∃ n18, f_X12_minutesToTarget_L18 p1 K n18 p1 (0 : Int32) M4))
set_option maxRecDepth 100000 in
set_option maxHeartbeats 4000000 in
theorem c_X12_minutesToTarget {ad : Nat → Nat} (p1 : Int32) (M : TM) (K : Int32 → TM → Prop) (h : f_X12_minutesToTarget p1 M K) : MI yX12_minutesToTarget cX12_minutesToTarget 3 (some .int) 4 ad [.ref (ad 0), .int p1] M K := by
  refine MI_of RX12 rfl (by decide +kernel) (Nat.le_of_ble_eq_true rfl) (fun p l e s m below meth c D tc E hr => ?_)
  unfold f_X12_minutesToTarget at h
  refine ra_aload_n E dX12_minutesToTarget_0 rfl 0 rfl ?_
  refine ra_iload_n E dX12_minutesToTarget_1 rfl 1 rfl ?_
  refine ra_callVV (rest := []) E (c_X12_requireBarge _ _ _ h) (lq_X12 _) cv_X12_requireBarge ml_X12_177 (by decide) (lm (by decide)) (fun R => ⟨_, cel_0 tc ad R⟩) rfl rfl rfl (Nat.le_of_ble_eq_true rfl) ⟨Nat.le_of_ble_eq_true rfl, Nat.le_of_ble_eq_true rfl⟩ ⟨Nat.zero_le _, Nat.zero_le _⟩ dX12_minutesToTarget_2 (fun M1 h => ?_)
  refine ra_aload_n E dX12_minutesToTarget_5 rfl 0 rfl ?_
  obtain ⟨g2, h⟩ := h
  refine gf_X12_6 E fl_X12_44 dX12_minutesToTarget_6 ?_
  refine ra_aload_n E dX12_minutesToTarget_9 rfl 0 rfl ?_
  obtain ⟨g3, h⟩ := h
  refine gf_X12_5 E fl_X12_41 dX12_minutesToTarget_10 ?_
  refine ra_callVV (rest := []) E (c_X2_copyFrom _ (isCanal_of g2) _ (isCanal_of g3) _ _ h) (lq_X2 _) cv_X2_copyFrom ml_X12_258 (by decide) (lm ((isCanal_of g2).add (j := 0) (by decide))) (fun R => ⟨_, cel_canal tc ad (isCanal_of g2) R⟩) rfl rfl rfl (Nat.le_of_ble_eq_true rfl) ⟨Nat.le_of_ble_eq_true rfl, Nat.le_of_ble_eq_true rfl⟩ ⟨Nat.zero_le _, Nat.zero_le _⟩ dX12_minutesToTarget_13 (fun M4 h => ?_)
  refine ra_iconst E dX12_minutesToTarget_16 ki_0 ?_
  refine ra_istore_n (L' := [(2, _), (0, _), (1, _)]) E dX12_minutesToTarget_17 rfl (by decide) rfl ?_
  obtain ⟨n13, h⟩ := h
  exact ra_sub (L' := [(0, _), (1, _), (2, _)]) [1, 2, 0] rfl (l_X12_minutesToTarget_L18 p1 E hr n13 _ _ _ h)
def f_X12_willBeEaten (p1 : Int32) (M : TM) (K : Int32 → TM → Prop) : Prop := f_X12_requireOrder p1 M (fun M1 => vp_in (M1 0 6) 11 ∧ vp_in (M1 0 5) 11 ∧ f_X2_copyFrom (27 + 61 * (M1 0 6).toNatClampNeg) (27 + 61 * (M1 0 5).toNatClampNeg) M1 (fun M4 => vp_in (M4 0 6) 11 ∧ f_X2_passAtMost (27 + 61 * (M4 0 6).toNatClampNeg) (200 : Int32) M4 (fun M6 => vp_in (M6 0 6) 11 ∧ f_X2_wasEaten (27 + 61 * (M6 0 6).toNatClampNeg) p1 M6 (fun r9 M8 => K r9 M8))))
set_option maxRecDepth 100000 in
set_option maxHeartbeats 4000000 in
theorem c_X12_willBeEaten {ad : Nat → Nat} (p1 : Int32) (M : TM) (K : Int32 → TM → Prop) (h : f_X12_willBeEaten p1 M K) : MI yX12_willBeEaten cX12_willBeEaten 2 (some .boolean) 4 ad [.ref (ad 0), .int p1] M (fun r M' => (r = 0 ∨ r = 1) ∧ K r M') := by
  refine MI_of RX12 rfl (by decide +kernel) (Nat.le_of_ble_eq_true rfl) (fun p l e s m below meth c D tc E hr => ?_)
  unfold f_X12_willBeEaten at h
  refine ra_aload_n E dX12_willBeEaten_0 rfl 0 rfl ?_
  refine ra_iload_n E dX12_willBeEaten_1 rfl 1 rfl ?_
  refine ra_callVV (rest := []) E (c_X12_requireOrder _ _ _ h) (lq_X12 _) cv_X12_requireOrder ml_X12_268 (by decide) (lm (by decide)) (fun R => ⟨_, cel_0 tc ad R⟩) rfl rfl rfl (Nat.le_of_ble_eq_true rfl) ⟨Nat.le_of_ble_eq_true rfl, Nat.le_of_ble_eq_true rfl⟩ ⟨Nat.zero_le _, Nat.zero_le _⟩ dX12_willBeEaten_2 (fun M1 h => ?_)
  refine ra_aload_n E dX12_willBeEaten_5 rfl 0 rfl ?_
  obtain ⟨g2, h⟩ := h
  refine gf_X12_6 E fl_X12_44 dX12_willBeEaten_6 ?_
  refine ra_aload_n E dX12_willBeEaten_9 rfl 0 rfl ?_
  obtain ⟨g3, h⟩ := h
  refine gf_X12_5 E fl_X12_41 dX12_willBeEaten_10 ?_
  refine ra_callVV (rest := []) E (c_X2_copyFrom _ (isCanal_of g2) _ (isCanal_of g3) _ _ h) (lq_X2 _) cv_X2_copyFrom ml_X12_258 (by decide) (lm ((isCanal_of g2).add (j := 0) (by decide))) (fun R => ⟨_, cel_canal tc ad (isCanal_of g2) R⟩) rfl rfl rfl (Nat.le_of_ble_eq_true rfl) ⟨Nat.le_of_ble_eq_true rfl, Nat.le_of_ble_eq_true rfl⟩ ⟨Nat.zero_le _, Nat.zero_le _⟩ dX12_willBeEaten_13 (fun M4 h => ?_)
  refine ra_aload_n E dX12_willBeEaten_16 rfl 0 rfl ?_
  obtain ⟨g5, h⟩ := h
  refine gf_X12_6 E fl_X12_44 dX12_willBeEaten_17 ?_
  refine ra_sipush E dX12_willBeEaten_20 ks_200 ?_
  refine ra_callVV (rest := []) E (c_X2_passAtMost _ (isCanal_of g5) _ _ _ h) (lq_X2 _) cv_X2_passAtMost ml_X12_265 (by decide) (lm ((isCanal_of g5).add (j := 0) (by decide))) (fun R => ⟨_, cel_canal tc ad (isCanal_of g5) R⟩) rfl rfl rfl (Nat.le_of_ble_eq_true rfl) ⟨Nat.le_of_ble_eq_true rfl, Nat.le_of_ble_eq_true rfl⟩ ⟨Nat.zero_le _, Nat.zero_le _⟩ dX12_willBeEaten_23 (fun M6 h => ?_)
  refine ra_aload_n E dX12_willBeEaten_26 rfl 0 rfl ?_
  obtain ⟨g7, h⟩ := h
  refine gf_X12_6 E fl_X12_44 dX12_willBeEaten_27 ?_
  refine ra_iload_n E dX12_willBeEaten_30 rfl 1 rfl ?_
  refine ra_callIV (rest := []) E (c_X2_wasEaten _ (isCanal_of g7) _ _ _ h) (lq_X2 _) cv_X2_wasEaten ml_X12_271 (by decide) (lm ((isCanal_of g7).add (j := 0) (by decide))) (fun R => ⟨_, cel_canal tc ad (isCanal_of g7) R⟩) rfl rfl rfl (Nat.le_of_ble_eq_true rfl) ⟨Nat.le_of_ble_eq_true rfl, Nat.le_of_ble_eq_true rfl⟩ ⟨Nat.zero_le _, Nat.zero_le _⟩ dX12_willBeEaten_31 (fun r9 M8 h => ?_)
  obtain ⟨b10, h⟩ := h
  exact ra_zret E hr (nz_01 b10) dX12_willBeEaten_34 ⟨b10, h⟩
def f_X12_coinsAfter (p1 : Int32) (M : TM) (K : Int32 → TM → Prop) : Prop := f_X12_requireRange p1 (0 : Int32) (200 : Int32) M (fun M1 => vp_in (M1 0 6) 11 ∧ vp_in (M1 0 5) 11 ∧ f_X2_copyFrom (27 + 61 * (M1 0 6).toNatClampNeg) (27 + 61 * (M1 0 5).toNatClampNeg) M1 (fun M4 => vp_in (M4 0 6) 11 ∧ f_X2_passAtMost (27 + 61 * (M4 0 6).toNatClampNeg) p1 M4 (fun M6 => vp_in (M6 0 6) 11 ∧ K (M6 (27 + 61 * (M6 0 6).toNatClampNeg) 9) M6)))
set_option maxRecDepth 100000 in
set_option maxHeartbeats 4000000 in
theorem c_X12_coinsAfter {ad : Nat → Nat} (p1 : Int32) (M : TM) (K : Int32 → TM → Prop) (h : f_X12_coinsAfter p1 M K) : MI yX12_coinsAfter cX12_coinsAfter 2 (some .int) 4 ad [.ref (ad 0), .int p1] M K := by
  refine MI_of RX12 rfl (by decide +kernel) (Nat.le_of_ble_eq_true rfl) (fun p l e s m below meth c D tc E hr => ?_)
  unfold f_X12_coinsAfter at h
  refine ra_iload_n E dX12_coinsAfter_0 rfl 1 rfl ?_
  refine ra_iconst E dX12_coinsAfter_1 ki_0 ?_
  refine ra_sipush E dX12_coinsAfter_2 ks_200 ?_
  refine ra_callVS (rest := []) E (c_X12_requireRange _ _ _ _ _ h) (lq_X12 _) ct_X12_requireRange ml_X12_274 (by decide) rfl rfl (Nat.le_of_ble_eq_true rfl) ⟨Nat.le_of_ble_eq_true rfl, Nat.le_of_ble_eq_true rfl⟩ ⟨Nat.zero_le _, Nat.zero_le _⟩ dX12_coinsAfter_5 (fun M1 h => ?_)
  refine ra_aload_n E dX12_coinsAfter_8 rfl 0 rfl ?_
  obtain ⟨g2, h⟩ := h
  refine gf_X12_6 E fl_X12_44 dX12_coinsAfter_9 ?_
  refine ra_aload_n E dX12_coinsAfter_12 rfl 0 rfl ?_
  obtain ⟨g3, h⟩ := h
  refine gf_X12_5 E fl_X12_41 dX12_coinsAfter_13 ?_
  refine ra_callVV (rest := []) E (c_X2_copyFrom _ (isCanal_of g2) _ (isCanal_of g3) _ _ h) (lq_X2 _) cv_X2_copyFrom ml_X12_258 (by decide) (lm ((isCanal_of g2).add (j := 0) (by decide))) (fun R => ⟨_, cel_canal tc ad (isCanal_of g2) R⟩) rfl rfl rfl (Nat.le_of_ble_eq_true rfl) ⟨Nat.le_of_ble_eq_true rfl, Nat.le_of_ble_eq_true rfl⟩ ⟨Nat.zero_le _, Nat.zero_le _⟩ dX12_coinsAfter_16 (fun M4 h => ?_)
  refine ra_aload_n E dX12_coinsAfter_19 rfl 0 rfl ?_
  obtain ⟨g5, h⟩ := h
  refine gf_X12_6 E fl_X12_44 dX12_coinsAfter_20 ?_
  refine ra_iload_n E dX12_coinsAfter_23 rfl 1 rfl ?_
  refine ra_callVV (rest := []) E (c_X2_passAtMost _ (isCanal_of g5) _ _ _ h) (lq_X2 _) cv_X2_passAtMost ml_X12_265 (by decide) (lm ((isCanal_of g5).add (j := 0) (by decide))) (fun R => ⟨_, cel_canal tc ad (isCanal_of g5) R⟩) rfl rfl rfl (Nat.le_of_ble_eq_true rfl) ⟨Nat.le_of_ble_eq_true rfl, Nat.le_of_ble_eq_true rfl⟩ ⟨Nat.zero_le _, Nat.zero_le _⟩ dX12_coinsAfter_24 (fun M6 h => ?_)
  refine ra_aload_n E dX12_coinsAfter_27 rfl 0 rfl ?_
  obtain ⟨g7, h⟩ := h
  refine gf_X12_6 E fl_X12_44 dX12_coinsAfter_28 ?_
  refine gf_X2_9 E (isCanal_of g7) fl_X12_230 dX12_coinsAfter_31 ?_
  exact ra_iret E hr dX12_coinsAfter_34 h
def f_X12_passMinutes (p1 : Int32) (M : TM) (K : Int32 → TM → Prop) : Prop := f_X12_requireRange p1 (1 : Int32) (60 : Int32) M (fun M1 => vp_in (M1 0 5) 11 ∧ f_X2_canPass (27 + 61 * (M1 0 5).toNatClampNeg) p1 M1 (fun r4 M3 => f_X12_requireState r4 M3 (fun M6 => vp_in (M6 0 5) 11 ∧ f_X5_remember (27 + 61 * (M6 0 5).toNatClampNeg) M6 (fun M8 => vp_in (M8 0 5) 11 ∧ vp_in (M8 0 5) 11 ∧ f_X2_passAtMost (27 + 61 * (M8 0 5).toNatClampNeg) p1 M8 (fun M11 => vp_in (M11 0 5) 11 ∧ K ((M11 (27 + 61 * (M11 0 5).toNatClampNeg) 12) - (M8 (27 + 61 * (M8 0 5).toNatClampNeg) 12)) M11)))))
set_option maxRecDepth 100000 in
set_option maxHeartbeats 4000000 in
theorem c_X12_passMinutes {ad : Nat → Nat} (p1 : Int32) (M : TM) (K : Int32 → TM → Prop) (h : f_X12_passMinutes p1 M K) : MI yX12_passMinutes cX12_passMinutes 3 (some .int) 4 ad [.ref (ad 0), .int p1] M K := by
  refine MI_of RX12 rfl (by decide +kernel) (Nat.le_of_ble_eq_true rfl) (fun p l e s m below meth c D tc E hr => ?_)
  unfold f_X12_passMinutes at h
  refine ra_iload_n E dX12_passMinutes_0 rfl 1 rfl ?_
  refine ra_iconst E dX12_passMinutes_1 ki_1 ?_
  refine ra_bipush E dX12_passMinutes_2 kb_60 ?_
  refine ra_callVS (rest := []) E (c_X12_requireRange _ _ _ _ _ h) (lq_X12 _) ct_X12_requireRange ml_X12_274 (by decide) rfl rfl (Nat.le_of_ble_eq_true rfl) ⟨Nat.le_of_ble_eq_true rfl, Nat.le_of_ble_eq_true rfl⟩ ⟨Nat.zero_le _, Nat.zero_le _⟩ dX12_passMinutes_4 (fun M1 h => ?_)
  refine ra_aload_n E dX12_passMinutes_7 rfl 0 rfl ?_
  obtain ⟨g2, h⟩ := h
  refine gf_X12_5 E fl_X12_41 dX12_passMinutes_8 ?_
  refine ra_iload_n E dX12_passMinutes_11 rfl 1 rfl ?_
  refine ra_callIV (rest := []) E (c_X2_canPass _ (isCanal_of g2) _ _ _ h) (lq_X2 _) cv_X2_canPass ml_X12_332 (by decide) (lm ((isCanal_of g2).add (j := 0) (by decide))) (fun R => ⟨_, cel_canal tc ad (isCanal_of g2) R⟩) rfl rfl rfl (Nat.le_of_ble_eq_true rfl) ⟨Nat.le_of_ble_eq_true rfl, Nat.le_of_ble_eq_true rfl⟩ ⟨Nat.zero_le _, Nat.zero_le _⟩ dX12_passMinutes_12 (fun r4 M3 h => ?_)
  obtain ⟨b5, h⟩ := h
  refine ra_callVS (rest := []) E (c_X12_requireState _ _ _ h) (lq_X12 _) ct_X12_requireState ml_X12_285 (by decide) rfl rfl (Nat.le_of_ble_eq_true rfl) ⟨Nat.le_of_ble_eq_true rfl, Nat.le_of_ble_eq_true rfl⟩ ⟨Nat.zero_le _, Nat.zero_le _⟩ dX12_passMinutes_15 (fun M6 h => ?_)
  refine ra_aload_n E dX12_passMinutes_18 rfl 0 rfl ?_
  refine gf_X12_2 E fl_X12_26 dX12_passMinutes_19 ?_
  refine ra_aload_n E dX12_passMinutes_22 rfl 0 rfl ?_
  obtain ⟨g7, h⟩ := h
  refine gf_X12_5 E fl_X12_41 dX12_passMinutes_23 ?_
  refine ra_callVV (rest := []) E (c_X5_remember _ (isCanal_of g7) _ _ h) (lq_X5 _) cv_X5_remember ml_X12_289 (by decide) (lm (by decide)) (fun R => ⟨_, cel_25 tc ad R⟩) rfl rfl rfl (Nat.le_of_ble_eq_true rfl) ⟨Nat.le_of_ble_eq_true rfl, Nat.le_of_ble_eq_true rfl⟩ ⟨Nat.zero_le _, Nat.zero_le _⟩ dX12_passMinutes_26 (fun M8 h => ?_)
  refine ra_aload_n E dX12_passMinutes_29 rfl 0 rfl ?_
  obtain ⟨g9, h⟩ := h
  refine gf_X12_5 E fl_X12_41 dX12_passMinutes_30 ?_
  refine gf_X2_12 E (isCanal_of g9) fl_X12_242 dX12_passMinutes_33 ?_
  refine ra_istore_n (L' := [(2, _), (0, _), (1, _)]) E dX12_passMinutes_36 rfl (by decide) rfl ?_
  refine ra_aload_n E dX12_passMinutes_37 rfl 1 rfl ?_
  obtain ⟨g10, h⟩ := h
  refine gf_X12_5 E fl_X12_41 dX12_passMinutes_38 ?_
  refine ra_iload_n E dX12_passMinutes_41 rfl 2 rfl ?_
  refine ra_callVV (rest := []) E (c_X2_passAtMost _ (isCanal_of g10) _ _ _ h) (lq_X2 _) cv_X2_passAtMost ml_X12_265 (by decide) (lm ((isCanal_of g10).add (j := 0) (by decide))) (fun R => ⟨_, cel_canal tc ad (isCanal_of g10) R⟩) rfl rfl rfl (Nat.le_of_ble_eq_true rfl) ⟨Nat.le_of_ble_eq_true rfl, Nat.le_of_ble_eq_true rfl⟩ ⟨Nat.zero_le _, Nat.zero_le _⟩ dX12_passMinutes_42 (fun M11 h => ?_)
  refine ra_aload_n E dX12_passMinutes_45 rfl 1 rfl ?_
  obtain ⟨g12, h⟩ := h
  refine gf_X12_5 E fl_X12_41 dX12_passMinutes_46 ?_
  refine gf_X2_12 E (isCanal_of g12) fl_X12_242 dX12_passMinutes_49 ?_
  refine ra_iload_n E dX12_passMinutes_52 rfl 0 rfl ?_
  refine ra_isub E dX12_passMinutes_53 ?_
  exact ra_iret E hr dX12_passMinutes_54 h
def f_L_say_L2 (n9 : Nat) (K : TM → Prop) : Nat → Int32 → TM → Prop
  | 0, _, _ => False
  | n + 1, x3, M => f_DJ0_length_8abf5 n9 M (fun r2 M1 => ((r2 ≤ x3 → K M1) ∧ (¬ r2 ≤ x3 → f_DJ0_charAt_5068e n9 x3 M1 (fun r5 M4 => f_L_add r5 M4 (fun M7 => f_L_say_L2 n9 K n (x3 + 1) M7)))))
set_option maxRecDepth 100000 in
set_option maxHeartbeats 4000000 in
theorem l_L_say_L2 {p : Program} {l : Launch} {e : Env} {s : State} {m : MethodId} {args : Array Value} {below : List Frame} {meth : Method} {c : Code} {D : va_G} {tc : Nat → ClassId} {ad : Nat → Nat} (n9 : Nat) (h9 : ad 1701 = n9) {K : TM → Prop} (E : Ev p s m args meth c D tc ad RL cL_say 4) (hr : meth.sig.returnType = none) : ∀ (n : Nat) (x3 : Int32) (M : TM) , f_L_say_L2 n9 K n x3 M → Wa p l e (rmD 4) s m args below meth c 0 0 (MQ below (va_Qv K (EndW D tc ad) (A0 ad s.heap.size)) args s 0 0 (A0 ad s.heap.size)) D tc ad 4 M 2 [(0, .ref (ad 0)), (1, .ref (ad 699)), (2, .ref (ad 700)), (3, .int x3)] [] := by
  intro n
  induction n with
  | zero => intro x3 M  h; exact h.elim
  | succ n ih =>
    intro x3 M  h
    unfold f_L_say_L2 at h
    refine ra_iload_n E dL_say_2 rfl 3 rfl ?_
    refine ra_aload_n E dL_say_3 rfl 2 rfl ?_
    refine ra_callIV (rest := [_]) E (c_DJ0_length_8abf5 (lw702 E) _ h9 _ _ h) (lq_J0 _) cv_J0_length_8abf5 ml_L_14 (by decide) (lmL (by decide)) (fun R => ⟨_, cel_700 tc ad R⟩) rfl rfl rfl (Nat.le_of_ble_eq_true rfl) ⟨Nat.le_of_ble_eq_true rfl, Nat.le_of_ble_eq_true rfl⟩ ⟨Nat.zero_le _, Nat.zero_le _⟩ dL_say_4 (fun r2 M1 h => ?_)
    refine ra_icmp_ge (tgt := 26) E dL_say_7 (by decide) (fun q3 => ?_) (fun q3 => ?_)
    · replace h := h.1 q3
      exact ra_vret E hr dL_say_26 h
    · replace h := h.2 q3
      refine ra_aload_n E dL_say_10 rfl 0 rfl ?_
      refine ra_aload_n E dL_say_11 rfl 1 rfl ?_
      refine ra_aload_n E dL_say_12 rfl 2 rfl ?_
      refine ra_iload_n E dL_say_13 rfl 3 rfl ?_
      refine ra_callIV (rest := [_, _]) E (c_DJ0_charAt_5068e (lw702 E) _ h9 _ _ _ h) (lq_J0 _) cv_J0_charAt_5068e ml_L_20 (by decide) (lmL (by decide)) (fun R => ⟨_, cel_700 tc ad R⟩) rfl rfl rfl (Nat.le_of_ble_eq_true rfl) ⟨Nat.le_of_ble_eq_true rfl, Nat.le_of_ble_eq_true rfl⟩ ⟨Nat.zero_le _, Nat.zero_le _⟩ dL_say_14 (fun r5 M4 h => ?_)
      obtain ⟨b6, h⟩ := h
      refine ra_callVS (rest := []) E (c_L_add _ _ _ h) (Nat.le_refl _) ct_L_add ml_L_24 (by decide) rfl rfl (Nat.le_of_ble_eq_true rfl) ⟨Nat.le_of_ble_eq_true rfl, Nat.le_of_ble_eq_true rfl⟩ ⟨Nat.zero_le _, Nat.zero_le _⟩ dL_say_17 (fun M7 h => ?_)
      refine ra_iinc1 (L' := [(3, _), (0, _), (1, _), (2, _)]) E dL_say_20 3 rfl (by decide) rfl ?_
      refine ra_goto (tgt := 2) E dL_say_23 (by decide) ?_
      exact ra_sub (L' := [(0, _), (1, _), (2, _), (3, _)]) [1, 2, 3, 0] rfl (ih _ _ h)
def f_L_say (n9 : Nat) (M : TM) (K : TM → Prop) : Prop := ∃ n2, f_L_say_L2 n9 K n2 (0 : Int32) M
set_option maxRecDepth 100000 in
set_option maxHeartbeats 4000000 in
theorem c_L_say {ad : Nat → Nat} (n9 : Nat) (h9 : ad 1701 = n9) (M : TM) (K : TM → Prop) (h : f_L_say n9 M K) : MV yL_say cL_say 4 4 ad [.ref (ad 0), .ref (ad 699), .ref (ad 700)] M K := by
  refine MV_of RL rfl (by decide +kernel) (Nat.le_of_ble_eq_true rfl) (fun p l e s m below meth c D tc E hr => ?_)
  unfold f_L_say at h
  refine ra_iconst E dL_say_0 ki_0 ?_
  refine ra_istore_n (L' := [(3, _), (0, _), (1, _), (2, _)]) E dL_say_1 rfl (by decide) rfl ?_
  obtain ⟨n8, h⟩ := h
  exact ra_sub (L' := [(0, _), (1, _), (2, _), (3, _)]) [1, 2, 3, 0] rfl (l_L_say_L2 n9 h9 E hr n8 _ _ h)
def f_L_isCanal_L1031  (K : Int32 → TM → Prop) (z0 : UInt32) (z1 : UInt32) (M : TM) : Prop := ((¬ (Op.cmpValue (FP.fcmp z1 z0) CmpOp.l) = 0 → K (0 : Int32) M) ∧ ((Op.cmpValue (FP.fcmp z1 z0) CmpOp.l) = 0 → f_X12_coinsAfter (0 : Int32) M (fun r34 M33 => f_X12_coins M33 (fun r36 M35 => ((¬ r34 = r36 → K (0 : Int32) M35) ∧ (r34 = r36 → f_X12_writeCanal M35 (fun r39 M38 => f_X12_placeCount M38 (fun r41 M40 => ((¬ r39 = (((2 : Int32) * r41) - (1 : Int32)) → K (0 : Int32) M40) ∧ (r39 = (((2 : Int32) * r41) - (1 : Int32)) → f_X12_gap M40 (fun r44 M43 => ((¬ r44 = 0 → K (0 : Int32) M43) ∧ (r44 = 0 → K (1 : Int32) M43)))))))))))))
set_option maxRecDepth 100000 in
set_option maxHeartbeats 4000000 in
theorem l_L_isCanal_L1031 {p : Program} {l : Launch} {e : Env} {s : State} {m : MethodId} {args : Array Value} {below : List Frame} {meth : Method} {c : Code} {D : va_G} {tc : Nat → ClassId} {ad : Nat → Nat}  {K : Int32 → TM → Prop} (E : Ev p s m args meth c D tc ad RL cL_isCanal 16) (hr : meth.sig.returnType = (some .boolean)) : ∀ (z0 : UInt32) (z1 : UInt32) (M : TM) , f_L_isCanal_L1031  K z0 z1 M → Wa p l e (rmD 5) s m args below meth c 0 0 (MQ below (va_Qi (fun r M' => (r = 0 ∨ r = 1) ∧ K r M') (EndW D tc ad) (A0 ad s.heap.size)) args s 0 0 (A0 ad s.heap.size)) D tc ad 16 M 1031 [(0, .ref (ad 0))] [.float z0, .float z1] := by
  intro z0 z1 M  h
  unfold f_L_isCanal_L1031 at h
  refine ra_fcmp E dL_isCanal_1031 ?_
  refine ra_if_ne (tgt := 1073) E dL_isCanal_1032 (by decide) (fun q32 => ?_) (fun q32 => ?_)
  · replace h := h.1 q32
    refine ra_iconst E dL_isCanal_1073 ki_0 ?_
    exact ra_zret E hr rfl dL_isCanal_1074 ⟨Or.inl rfl, h⟩
  · replace h := h.2 q32
    refine ra_aload_n E dL_isCanal_1035 rfl 0 rfl ?_
    refine ra_iconst E dL_isCanal_1036 ki_0 ?_
    refine ra_callIV (rest := []) E (c_X12_coinsAfter _ _ _ h) (lq_X12 _) cv_X12_coinsAfter ml_L_145 (by decide) (lm (by decide)) (fun R => ⟨_, cel_0 tc ad R⟩) rfl rfl rfl (Nat.le_of_ble_eq_true rfl) ⟨Nat.le_of_ble_eq_true rfl, Nat.le_of_ble_eq_true rfl⟩ ⟨Nat.zero_le _, Nat.zero_le _⟩ dL_isCanal_1037 (fun r34 M33 h => ?_)
    refine ra_aload_n E dL_isCanal_1040 rfl 0 rfl ?_
    refine ra_callIV (rest := [_]) E (c_X12_coins _ _ h) (lq_X12 _) cv_X12_coins ml_L_42 (by decide) (lm (by decide)) (fun R => ⟨_, cel_0 tc ad R⟩) rfl rfl rfl (Nat.le_of_ble_eq_true rfl) ⟨Nat.le_of_ble_eq_true rfl, Nat.le_of_ble_eq_true rfl⟩ ⟨Nat.zero_le _, Nat.zero_le _⟩ dL_isCanal_1041 (fun r36 M35 h => ?_)
    refine ra_icmp_ne (tgt := 1073) E dL_isCanal_1044 (by decide) (fun q37 => ?_) (fun q37 => ?_)
    · replace h := h.1 q37
      refine ra_iconst E dL_isCanal_1073 ki_0 ?_
      exact ra_zret E hr rfl dL_isCanal_1074 ⟨Or.inl rfl, h⟩
    · replace h := h.2 q37
      refine ra_aload_n E dL_isCanal_1047 rfl 0 rfl ?_
      refine ra_callIV (rest := []) E (c_X12_writeCanal _ _ h) (lq_X12 _) cv_X12_writeCanal ml_L_148 (by decide) (lm (by decide)) (fun R => ⟨_, cel_0 tc ad R⟩) rfl rfl rfl (Nat.le_of_ble_eq_true rfl) ⟨Nat.le_of_ble_eq_true rfl, Nat.le_of_ble_eq_true rfl⟩ ⟨Nat.zero_le _, Nat.zero_le _⟩ dL_isCanal_1048 (fun r39 M38 h => ?_)
      refine ra_iconst E dL_isCanal_1051 ki_2 ?_
      refine ra_aload_n E dL_isCanal_1052 rfl 0 rfl ?_
      refine ra_callIV (rest := [_, _]) E (c_X12_placeCount _ _ h) (lq_X12 _) cv_X12_placeCount ml_L_36 (by decide) (lm (by decide)) (fun R => ⟨_, cel_0 tc ad R⟩) rfl rfl rfl (Nat.le_of_ble_eq_true rfl) ⟨Nat.le_of_ble_eq_true rfl, Nat.le_of_ble_eq_true rfl⟩ ⟨Nat.zero_le _, Nat.zero_le _⟩ dL_isCanal_1053 (fun r41 M40 h => ?_)
      refine ra_imul E dL_isCanal_1056 ?_
      refine ra_iconst E dL_isCanal_1057 ki_1 ?_
      refine ra_isub E dL_isCanal_1058 ?_
      refine ra_icmp_ne (tgt := 1073) E dL_isCanal_1059 (by decide) (fun q42 => ?_) (fun q42 => ?_)
      · replace h := h.1 q42
        refine ra_iconst E dL_isCanal_1073 ki_0 ?_
        exact ra_zret E hr rfl dL_isCanal_1074 ⟨Or.inl rfl, h⟩
      · replace h := h.2 q42
        refine ra_aload_n E dL_isCanal_1062 rfl 0 rfl ?_
        refine ra_callIV (rest := []) E (c_X12_gap _ _ h) (lq_X12 _) cv_X12_gap ml_L_151 (by decide) (lm (by decide)) (fun R => ⟨_, cel_0 tc ad R⟩) rfl rfl rfl (Nat.le_of_ble_eq_true rfl) ⟨Nat.le_of_ble_eq_true rfl, Nat.le_of_ble_eq_true rfl⟩ ⟨Nat.zero_le _, Nat.zero_le _⟩ dL_isCanal_1063 (fun r44 M43 h => ?_)
        refine ra_if_ne (tgt := 1073) E dL_isCanal_1066 (by decide) (fun q45 => ?_) (fun q45 => ?_)
        · replace h := h.1 q45
          refine ra_iconst E dL_isCanal_1073 ki_0 ?_
          exact ra_zret E hr rfl dL_isCanal_1074 ⟨Or.inl rfl, h⟩
        · replace h := h.2 q45
          refine ra_iconst E dL_isCanal_1069 ki_1 ?_
          refine ra_goto (tgt := 1074) E dL_isCanal_1070 (by decide) ?_
          exact ra_zret E hr rfl dL_isCanal_1074 ⟨Or.inr rfl, h⟩
def f_L_isCanal_L893  (K : Int32 → TM → Prop) (k612 : Int32 → Int32 → Int32 → Int32 → Int32 → Int32 → Int32 → Int32 → Int32 → Int32 → Int32 → TM → Prop) : Nat → Int32 → Int32 → Int32 → Int32 → Int32 → Int32 → Int32 → Int32 → Int32 → Int32 → Int32 → Int32 → Int32 → TM → Prop
  | 0, _, _, _, _, _, _, _, _, _, _, _, _, _, _ => False
  | n + 1, x1, x2, x3, x4, x5, x6, x7, x8, x9, x10, x11, x14, x15, M => f_X12_bargeCount M (fun r95 M94 => ((r95 ≤ x15 → k612 x1 x2 x3 x4 x5 x6 x7 x8 x9 x10 (x11 + 1) M94) ∧ (¬ r95 ≤ x15 → f_X12_placeOf x15 M94 (fun r98 M97 => f_X12_orderPlace x11 M97 (fun r100 M99 => f_X12_journeyTime r98 r100 M99 (fun r102 M101 => f_X12_placeOf x14 M101 (fun r104 M103 => f_X12_orderPlace x11 M103 (fun r106 M105 => f_X12_journeyTime r104 r106 M105 (fun r108 M107 => ((r108 ≤ r102 → f_L_isCanal_L893 K k612 n x1 x2 x3 x4 x5 x6 x7 x8 x9 x10 x11 x14 (x15 + 1) M107) ∧ (¬ r108 ≤ r102 → K (0 : Int32) M107)))))))))))
set_option maxRecDepth 100000 in
set_option maxHeartbeats 4000000 in
theorem l_L_isCanal_L893 {p : Program} {l : Launch} {e : Env} {s : State} {m : MethodId} {args : Array Value} {below : List Frame} {meth : Method} {c : Code} {D : va_G} {tc : Nat → ClassId} {ad : Nat → Nat}  {K : Int32 → TM → Prop} {k612 : Int32 → Int32 → Int32 → Int32 → Int32 → Int32 → Int32 → Int32 → Int32 → Int32 → Int32 → TM → Prop} (E : Ev p s m args meth c D tc ad RL cL_isCanal 16) (hr : meth.sig.returnType = (some .boolean)) (hk612 : ∀ (x1 : Int32) (x2 : Int32) (x3 : Int32) (x4 : Int32) (x5 : Int32) (x6 : Int32) (x7 : Int32) (x8 : Int32) (x9 : Int32) (x10 : Int32) (x11 : Int32) (M : TM) , k612 x1 x2 x3 x4 x5 x6 x7 x8 x9 x10 x11 M → Wa p l e (rmD 5) s m args below meth c 0 0 (MQ below (va_Qi (fun r M' => (r = 0 ∨ r = 1) ∧ K r M') (EndW D tc ad) (A0 ad s.heap.size)) args s 0 0 (A0 ad s.heap.size)) D tc ad 16 M 612 [(0, .ref (ad 0)), (1, .int x1), (2, .int x2), (3, .int x3), (4, .int x4), (5, .int x5), (6, .int x6), (7, .int x7), (8, .int x8), (9, .int x9), (10, .int x10), (11, .int x11)] []) : ∀ (n : Nat) (x1 : Int32) (x2 : Int32) (x3 : Int32) (x4 : Int32) (x5 : Int32) (x6 : Int32) (x7 : Int32) (x8 : Int32) (x9 : Int32) (x10 : Int32) (x11 : Int32) (x14 : Int32) (x15 : Int32) (M : TM) , f_L_isCanal_L893  K k612 n x1 x2 x3 x4 x5 x6 x7 x8 x9 x10 x11 x14 x15 M → Wa p l e (rmD 5) s m args below meth c 0 0 (MQ below (va_Qi (fun r M' => (r = 0 ∨ r = 1) ∧ K r M') (EndW D tc ad) (A0 ad s.heap.size)) args s 0 0 (A0 ad s.heap.size)) D tc ad 16 M 893 [(0, .ref (ad 0)), (1, .int x1), (2, .int x2), (3, .int x3), (4, .int x4), (5, .int x5), (6, .int x6), (7, .int x7), (8, .int x8), (9, .int x9), (10, .int x10), (11, .int x11), (14, .int x14), (15, .int x15)] [] := by
  intro n
  induction n with
  | zero => intro x1 x2 x3 x4 x5 x6 x7 x8 x9 x10 x11 x14 x15 M  h; exact h.elim
  | succ n ih =>
    intro x1 x2 x3 x4 x5 x6 x7 x8 x9 x10 x11 x14 x15 M  h
    unfold f_L_isCanal_L893 at h
    refine ra_iload E dL_isCanal_893 13 rfl ?_
    refine ra_aload_n E dL_isCanal_895 rfl 0 rfl ?_
    refine ra_callIV (rest := [_]) E (c_X12_bargeCount _ _ h) (lq_X12 _) cv_X12_bargeCount ml_L_30 (by decide) (lm (by decide)) (fun R => ⟨_, cel_0 tc ad R⟩) rfl rfl rfl (Nat.le_of_ble_eq_true rfl) ⟨Nat.le_of_ble_eq_true rfl, Nat.le_of_ble_eq_true rfl⟩ ⟨Nat.zero_le _, Nat.zero_le _⟩ dL_isCanal_896 (fun r95 M94 h => ?_)
    refine ra_icmp_ge (tgt := 945) E dL_isCanal_899 (by decide) (fun q96 => ?_) (fun q96 => ?_)
    · replace h := h.1 q96
      refine ra_iinc1 (L' := [(11, _), (0, _), (1, _), (2, _), (3, _), (4, _), (5, _), (6, _), (7, _), (8, _), (9, _), (10, _), (14, _), (15, _)]) E dL_isCanal_945 11 rfl (by decide) rfl ?_
      refine ra_goto (tgt := 612) E dL_isCanal_948 (by decide) ?_
      exact ra_sub (L' := [(0, _), (1, _), (2, _), (3, _), (4, _), (5, _), (6, _), (7, _), (8, _), (9, _), (10, _), (11, _)]) [1, 2, 3, 4, 5, 6, 7, 8, 9, 10, 11, 0] rfl (hk612 _ _ _ _ _ _ _ _ _ _ _ _ h)
    · replace h := h.2 q96
      refine ra_aload_n E dL_isCanal_902 rfl 0 rfl ?_
      refine ra_aload_n E dL_isCanal_903 rfl 0 rfl ?_
      refine ra_iload E dL_isCanal_904 13 rfl ?_
      refine ra_callIV (rest := [_]) E (c_X12_placeOf _ _ _ h) (lq_X12 _) cv_X12_placeOf ml_L_51 (by decide) (lm (by decide)) (fun R => ⟨_, cel_0 tc ad R⟩) rfl rfl rfl (Nat.le_of_ble_eq_true rfl) ⟨Nat.le_of_ble_eq_true rfl, Nat.le_of_ble_eq_true rfl⟩ ⟨Nat.zero_le _, Nat.zero_le _⟩ dL_isCanal_906 (fun r98 M97 h => ?_)
      refine ra_aload_n E dL_isCanal_909 rfl 0 rfl ?_
      refine ra_iload E dL_isCanal_910 11 rfl ?_
      refine ra_callIV (rest := [_, _]) E (c_X12_orderPlace _ _ _ h) (lq_X12 _) cv_X12_orderPlace ml_L_138 (by decide) (lm (by decide)) (fun R => ⟨_, cel_0 tc ad R⟩) rfl rfl rfl (Nat.le_of_ble_eq_true rfl) ⟨Nat.le_of_ble_eq_true rfl, Nat.le_of_ble_eq_true rfl⟩ ⟨Nat.zero_le _, Nat.zero_le _⟩ dL_isCanal_912 (fun r100 M99 h => ?_)
      refine ra_callIV (rest := []) E (c_X12_journeyTime _ _ _ _ h) (lq_X12 _) cv_X12_journeyTime ml_L_102 (by decide) (lm (by decide)) (fun R => ⟨_, cel_0 tc ad R⟩) rfl rfl rfl (Nat.le_of_ble_eq_true rfl) ⟨Nat.le_of_ble_eq_true rfl, Nat.le_of_ble_eq_true rfl⟩ ⟨Nat.zero_le _, Nat.zero_le _⟩ dL_isCanal_915 (fun r102 M101 h => ?_)
      refine ra_aload_n E dL_isCanal_918 rfl 0 rfl ?_
      refine ra_aload_n E dL_isCanal_919 rfl 0 rfl ?_
      refine ra_iload E dL_isCanal_920 12 rfl ?_
      refine ra_callIV (rest := [_, _]) E (c_X12_placeOf _ _ _ h) (lq_X12 _) cv_X12_placeOf ml_L_51 (by decide) (lm (by decide)) (fun R => ⟨_, cel_0 tc ad R⟩) rfl rfl rfl (Nat.le_of_ble_eq_true rfl) ⟨Nat.le_of_ble_eq_true rfl, Nat.le_of_ble_eq_true rfl⟩ ⟨Nat.zero_le _, Nat.zero_le _⟩ dL_isCanal_922 (fun r104 M103 h => ?_)
      refine ra_aload_n E dL_isCanal_925 rfl 0 rfl ?_
      refine ra_iload E dL_isCanal_926 11 rfl ?_
      refine ra_callIV (rest := [_, _, _]) E (c_X12_orderPlace _ _ _ h) (lq_X12 _) cv_X12_orderPlace ml_L_138 (by decide) (lm (by decide)) (fun R => ⟨_, cel_0 tc ad R⟩) rfl rfl rfl (Nat.le_of_ble_eq_true rfl) ⟨Nat.le_of_ble_eq_true rfl, Nat.le_of_ble_eq_true rfl⟩ ⟨Nat.zero_le _, Nat.zero_le _⟩ dL_isCanal_928 (fun r106 M105 h => ?_)
      refine ra_callIV (rest := [_]) E (c_X12_journeyTime _ _ _ _ h) (lq_X12 _) cv_X12_journeyTime ml_L_102 (by decide) (lm (by decide)) (fun R => ⟨_, cel_0 tc ad R⟩) rfl rfl rfl (Nat.le_of_ble_eq_true rfl) ⟨Nat.le_of_ble_eq_true rfl, Nat.le_of_ble_eq_true rfl⟩ ⟨Nat.zero_le _, Nat.zero_le _⟩ dL_isCanal_931 (fun r108 M107 h => ?_)
      refine ra_icmp_ge (tgt := 939) E dL_isCanal_934 (by decide) (fun q109 => ?_) (fun q109 => ?_)
      · replace h := h.1 q109
        refine ra_iinc1 (L' := [(15, _), (0, _), (1, _), (2, _), (3, _), (4, _), (5, _), (6, _), (7, _), (8, _), (9, _), (10, _), (11, _), (14, _)]) E dL_isCanal_939 13 rfl (by decide) rfl ?_
        refine ra_goto (tgt := 893) E dL_isCanal_942 (by decide) ?_
        exact ra_sub (L' := [(0, _), (1, _), (2, _), (3, _), (4, _), (5, _), (6, _), (7, _), (8, _), (9, _), (10, _), (11, _), (14, _), (15, _)]) [1, 2, 3, 4, 5, 6, 7, 8, 9, 10, 11, 12, 13, 0] rfl (ih _ _ _ _ _ _ _ _ _ _ _ _ _ _ h)
      · replace h := h.2 q109
        refine ra_iconst E dL_isCanal_937 ki_0 ?_
        exact ra_zret E hr rfl dL_isCanal_938 ⟨Or.inl rfl, h⟩
def f_L_isCanal_L882  (K : Int32 → TM → Prop) (k612 : Int32 → Int32 → Int32 → Int32 → Int32 → Int32 → Int32 → Int32 → Int32 → Int32 → Int32 → TM → Prop) (x1 : Int32) (x2 : Int32) (x3 : Int32) (x4 : Int32) (x5 : Int32) (x6 : Int32) (x7 : Int32) (x8 : Int32) (x9 : Int32) (x10 : Int32) (x11 : Int32) (M : TM) : Prop := f_X12_nearestBarge x11 M (fun r93 M92 => ∃ n893, f_L_isCanal_L893 K k612 n893 x1 x2 x3 x4 x5 x6 x7 x8 x9 x10 x11 r93 (0 : Int32) M92)
set_option maxRecDepth 100000 in
set_option maxHeartbeats 4000000 in
theorem l_L_isCanal_L882 {p : Program} {l : Launch} {e : Env} {s : State} {m : MethodId} {args : Array Value} {below : List Frame} {meth : Method} {c : Code} {D : va_G} {tc : Nat → ClassId} {ad : Nat → Nat}  {K : Int32 → TM → Prop} {k612 : Int32 → Int32 → Int32 → Int32 → Int32 → Int32 → Int32 → Int32 → Int32 → Int32 → Int32 → TM → Prop} (E : Ev p s m args meth c D tc ad RL cL_isCanal 16) (hr : meth.sig.returnType = (some .boolean)) (hk612 : ∀ (x1 : Int32) (x2 : Int32) (x3 : Int32) (x4 : Int32) (x5 : Int32) (x6 : Int32) (x7 : Int32) (x8 : Int32) (x9 : Int32) (x10 : Int32) (x11 : Int32) (M : TM) , k612 x1 x2 x3 x4 x5 x6 x7 x8 x9 x10 x11 M → Wa p l e (rmD 5) s m args below meth c 0 0 (MQ below (va_Qi (fun r M' => (r = 0 ∨ r = 1) ∧ K r M') (EndW D tc ad) (A0 ad s.heap.size)) args s 0 0 (A0 ad s.heap.size)) D tc ad 16 M 612 [(0, .ref (ad 0)), (1, .int x1), (2, .int x2), (3, .int x3), (4, .int x4), (5, .int x5), (6, .int x6), (7, .int x7), (8, .int x8), (9, .int x9), (10, .int x10), (11, .int x11)] []) : ∀ (x1 : Int32) (x2 : Int32) (x3 : Int32) (x4 : Int32) (x5 : Int32) (x6 : Int32) (x7 : Int32) (x8 : Int32) (x9 : Int32) (x10 : Int32) (x11 : Int32) (M : TM) , f_L_isCanal_L882  K k612 x1 x2 x3 x4 x5 x6 x7 x8 x9 x10 x11 M → Wa p l e (rmD 5) s m args below meth c 0 0 (MQ below (va_Qi (fun r M' => (r = 0 ∨ r = 1) ∧ K r M') (EndW D tc ad) (A0 ad s.heap.size)) args s 0 0 (A0 ad s.heap.size)) D tc ad 16 M 882 [(0, .ref (ad 0)), (1, .int x1), (2, .int x2), (3, .int x3), (4, .int x4), (5, .int x5), (6, .int x6), (7, .int x7), (8, .int x8), (9, .int x9), (10, .int x10), (11, .int x11)] [] := by
  intro x1 x2 x3 x4 x5 x6 x7 x8 x9 x10 x11 M  h
  unfold f_L_isCanal_L882 at h
  refine ra_aload_n E dL_isCanal_882 rfl 0 rfl ?_
  refine ra_iload E dL_isCanal_883 11 rfl ?_
  refine ra_callIV (rest := []) E (c_X12_nearestBarge _ _ _ h) (lq_X12 _) cv_X12_nearestBarge ml_L_135 (by decide) (lm (by decide)) (fun R => ⟨_, cel_0 tc ad R⟩) rfl rfl rfl (Nat.le_of_ble_eq_true rfl) ⟨Nat.le_of_ble_eq_true rfl, Nat.le_of_ble_eq_true rfl⟩ ⟨Nat.zero_le _, Nat.zero_le _⟩ dL_isCanal_885 (fun r93 M92 h => ?_)
  refine ra_istore (L' := [(14, _), (0, _), (1, _), (2, _), (3, _), (4, _), (5, _), (6, _), (7, _), (8, _), (9, _), (10, _), (11, _)]) E dL_isCanal_888 (by decide) rfl ?_
  refine ra_iconst E dL_isCanal_890 ki_0 ?_
  refine ra_istore (L' := [(15, _), (14, _), (0, _), (1, _), (2, _), (3, _), (4, _), (5, _), (6, _), (7, _), (8, _), (9, _), (10, _), (11, _)]) E dL_isCanal_891 (by decide) rfl ?_
  obtain ⟨n110, h⟩ := h
  exact ra_sub (L' := [(0, _), (1, _), (2, _), (3, _), (4, _), (5, _), (6, _), (7, _), (8, _), (9, _), (10, _), (11, _), (14, _), (15, _)]) [2, 3, 4, 5, 6, 7, 8, 9, 10, 11, 12, 13, 1, 0] rfl (l_L_isCanal_L893 E hr hk612 n110 _ _ _ _ _ _ _ _ _ _ _ _ _ _ h)
def f_L_isCanal_L867  (K : Int32 → TM → Prop) (k612 : Int32 → Int32 → Int32 → Int32 → Int32 → Int32 → Int32 → Int32 → Int32 → Int32 → Int32 → TM → Prop) (x1 : Int32) (x2 : Int32) (x3 : Int32) (x4 : Int32) (x5 : Int32) (x6 : Int32) (x7 : Int32) (x8 : Int32) (x9 : Int32) (x10 : Int32) (x11 : Int32) (M : TM) : Prop := f_X12_deadline x11 M (fun r88 M87 => f_X12_minute M87 (fun r90 M89 => ((r90 ≤ r88 → f_L_isCanal_L882 K k612 x1 x2 x3 x4 x5 x6 x7 x8 x9 x10 x11 M89) ∧ (¬ r90 ≤ r88 → K (0 : Int32) M89))))
set_option maxRecDepth 100000 in
set_option maxHeartbeats 4000000 in
theorem l_L_isCanal_L867 {p : Program} {l : Launch} {e : Env} {s : State} {m : MethodId} {args : Array Value} {below : List Frame} {meth : Method} {c : Code} {D : va_G} {tc : Nat → ClassId} {ad : Nat → Nat}  {K : Int32 → TM → Prop} {k612 : Int32 → Int32 → Int32 → Int32 → Int32 → Int32 → Int32 → Int32 → Int32 → Int32 → Int32 → TM → Prop} (E : Ev p s m args meth c D tc ad RL cL_isCanal 16) (hr : meth.sig.returnType = (some .boolean)) (hk612 : ∀ (x1 : Int32) (x2 : Int32) (x3 : Int32) (x4 : Int32) (x5 : Int32) (x6 : Int32) (x7 : Int32) (x8 : Int32) (x9 : Int32) (x10 : Int32) (x11 : Int32) (M : TM) , k612 x1 x2 x3 x4 x5 x6 x7 x8 x9 x10 x11 M → Wa p l e (rmD 5) s m args below meth c 0 0 (MQ below (va_Qi (fun r M' => (r = 0 ∨ r = 1) ∧ K r M') (EndW D tc ad) (A0 ad s.heap.size)) args s 0 0 (A0 ad s.heap.size)) D tc ad 16 M 612 [(0, .ref (ad 0)), (1, .int x1), (2, .int x2), (3, .int x3), (4, .int x4), (5, .int x5), (6, .int x6), (7, .int x7), (8, .int x8), (9, .int x9), (10, .int x10), (11, .int x11)] []) : ∀ (x1 : Int32) (x2 : Int32) (x3 : Int32) (x4 : Int32) (x5 : Int32) (x6 : Int32) (x7 : Int32) (x8 : Int32) (x9 : Int32) (x10 : Int32) (x11 : Int32) (M : TM) , f_L_isCanal_L867  K k612 x1 x2 x3 x4 x5 x6 x7 x8 x9 x10 x11 M → Wa p l e (rmD 5) s m args below meth c 0 0 (MQ below (va_Qi (fun r M' => (r = 0 ∨ r = 1) ∧ K r M') (EndW D tc ad) (A0 ad s.heap.size)) args s 0 0 (A0 ad s.heap.size)) D tc ad 16 M 867 [(0, .ref (ad 0)), (1, .int x1), (2, .int x2), (3, .int x3), (4, .int x4), (5, .int x5), (6, .int x6), (7, .int x7), (8, .int x8), (9, .int x9), (10, .int x10), (11, .int x11)] [] := by
  intro x1 x2 x3 x4 x5 x6 x7 x8 x9 x10 x11 M  h
  unfold f_L_isCanal_L867 at h
  refine ra_aload_n E dL_isCanal_867 rfl 0 rfl ?_
  refine ra_iload E dL_isCanal_868 11 rfl ?_
  refine ra_callIV (rest := []) E (c_X12_deadline _ _ _ h) (lq_X12 _) cv_X12_deadline ml_L_80 (by decide) (lm (by decide)) (fun R => ⟨_, cel_0 tc ad R⟩) rfl rfl rfl (Nat.le_of_ble_eq_true rfl) ⟨Nat.le_of_ble_eq_true rfl, Nat.le_of_ble_eq_true rfl⟩ ⟨Nat.zero_le _, Nat.zero_le _⟩ dL_isCanal_870 (fun r88 M87 h => ?_)
  refine ra_aload_n E dL_isCanal_873 rfl 0 rfl ?_
  refine ra_callIV (rest := [_]) E (c_X12_minute _ _ h) (lq_X12 _) cv_X12_minute ml_L_39 (by decide) (lm (by decide)) (fun R => ⟨_, cel_0 tc ad R⟩) rfl rfl rfl (Nat.le_of_ble_eq_true rfl) ⟨Nat.le_of_ble_eq_true rfl, Nat.le_of_ble_eq_true rfl⟩ ⟨Nat.zero_le _, Nat.zero_le _⟩ dL_isCanal_874 (fun r90 M89 h => ?_)
  refine ra_icmp_ge (tgt := 882) E dL_isCanal_877 (by decide) (fun q91 => ?_) (fun q91 => ?_)
  · replace h := h.1 q91
    exact ra_sub (L' := [(0, _), (1, _), (2, _), (3, _), (4, _), (5, _), (6, _), (7, _), (8, _), (9, _), (10, _), (11, _)]) [0, 1, 2, 3, 4, 5, 6, 7, 8, 9, 10, 11] rfl (l_L_isCanal_L882 E hr hk612 _ _ _ _ _ _ _ _ _ _ _ _ h)
  · replace h := h.2 q91
    refine ra_iconst E dL_isCanal_880 ki_0 ?_
    exact ra_zret E hr rfl dL_isCanal_881 ⟨Or.inl rfl, h⟩
def f_L_isCanal_L853  (K : Int32 → TM → Prop) (k612 : Int32 → Int32 → Int32 → Int32 → Int32 → Int32 → Int32 → Int32 → Int32 → Int32 → Int32 → TM → Prop) (x1 : Int32) (x2 : Int32) (x3 : Int32) (x4 : Int32) (x5 : Int32) (x6 : Int32) (x7 : Int32) (x8 : Int32) (x9 : Int32) (x10 : Int32) (x11 : Int32) (x12 : Int32) (M : TM) : Prop := f_X12_isOpen x11 M (fun r84 M83 => ((¬ r84 = 0 → f_L_isCanal_L867 K k612 x1 x2 x3 x4 x5 x6 x7 x8 x9 x10 x11 M83) ∧ (r84 = 0 → ((x12 = 0 → f_L_isCanal_L882 K k612 x1 x2 x3 x4 x5 x6 x7 x8 x9 x10 x11 M83) ∧ (¬ x12 = 0 → f_L_isCanal_L867 K k612 x1 x2 x3 x4 x5 x6 x7 x8 x9 x10 x11 M83)))))
set_option maxRecDepth 100000 in
set_option maxHeartbeats 4000000 in
theorem l_L_isCanal_L853 {p : Program} {l : Launch} {e : Env} {s : State} {m : MethodId} {args : Array Value} {below : List Frame} {meth : Method} {c : Code} {D : va_G} {tc : Nat → ClassId} {ad : Nat → Nat}  {K : Int32 → TM → Prop} {k612 : Int32 → Int32 → Int32 → Int32 → Int32 → Int32 → Int32 → Int32 → Int32 → Int32 → Int32 → TM → Prop} (E : Ev p s m args meth c D tc ad RL cL_isCanal 16) (hr : meth.sig.returnType = (some .boolean)) (hk612 : ∀ (x1 : Int32) (x2 : Int32) (x3 : Int32) (x4 : Int32) (x5 : Int32) (x6 : Int32) (x7 : Int32) (x8 : Int32) (x9 : Int32) (x10 : Int32) (x11 : Int32) (M : TM) , k612 x1 x2 x3 x4 x5 x6 x7 x8 x9 x10 x11 M → Wa p l e (rmD 5) s m args below meth c 0 0 (MQ below (va_Qi (fun r M' => (r = 0 ∨ r = 1) ∧ K r M') (EndW D tc ad) (A0 ad s.heap.size)) args s 0 0 (A0 ad s.heap.size)) D tc ad 16 M 612 [(0, .ref (ad 0)), (1, .int x1), (2, .int x2), (3, .int x3), (4, .int x4), (5, .int x5), (6, .int x6), (7, .int x7), (8, .int x8), (9, .int x9), (10, .int x10), (11, .int x11)] []) : ∀ (x1 : Int32) (x2 : Int32) (x3 : Int32) (x4 : Int32) (x5 : Int32) (x6 : Int32) (x7 : Int32) (x8 : Int32) (x9 : Int32) (x10 : Int32) (x11 : Int32) (x12 : Int32) (M : TM) , f_L_isCanal_L853  K k612 x1 x2 x3 x4 x5 x6 x7 x8 x9 x10 x11 x12 M → Wa p l e (rmD 5) s m args below meth c 0 0 (MQ below (va_Qi (fun r M' => (r = 0 ∨ r = 1) ∧ K r M') (EndW D tc ad) (A0 ad s.heap.size)) args s 0 0 (A0 ad s.heap.size)) D tc ad 16 M 853 [(0, .ref (ad 0)), (1, .int x1), (2, .int x2), (3, .int x3), (4, .int x4), (5, .int x5), (6, .int x6), (7, .int x7), (8, .int x8), (9, .int x9), (10, .int x10), (11, .int x11), (12, .int x12)] [] := by
  intro x1 x2 x3 x4 x5 x6 x7 x8 x9 x10 x11 x12 M  h
  unfold f_L_isCanal_L853 at h
  refine ra_aload_n E dL_isCanal_853 rfl 0 rfl ?_
  refine ra_iload E dL_isCanal_854 11 rfl ?_
  refine ra_callIV (rest := []) E (c_X12_isOpen _ _ _ h) (lq_X12 _) cv_X12_isOpen ml_L_83 (by decide) (lm (by decide)) (fun R => ⟨_, cel_0 tc ad R⟩) rfl rfl rfl (Nat.le_of_ble_eq_true rfl) ⟨Nat.le_of_ble_eq_true rfl, Nat.le_of_ble_eq_true rfl⟩ ⟨Nat.zero_le _, Nat.zero_le _⟩ dL_isCanal_856 (fun r84 M83 h => ?_)
  obtain ⟨b85, h⟩ := h
  refine ra_if_ne (tgt := 867) E dL_isCanal_859 (by decide) (fun q86 => ?_) (fun q86 => ?_)
  · replace h := h.1 q86
    exact ra_sub (L' := [(0, _), (1, _), (2, _), (3, _), (4, _), (5, _), (6, _), (7, _), (8, _), (9, _), (10, _), (11, _)]) [0, 1, 2, 3, 4, 5, 6, 7, 8, 9, 10, 11] rfl (l_L_isCanal_L867 E hr hk612 _ _ _ _ _ _ _ _ _ _ _ _ h)
  · replace h := h.2 q86
    refine ra_iload E dL_isCanal_862 12 rfl ?_
    refine ra_if_eq (tgt := 882) E dL_isCanal_864 (by decide) (fun q111 => ?_) (fun q111 => ?_)
    · replace h := h.1 q111
      exact ra_sub (L' := [(0, _), (1, _), (2, _), (3, _), (4, _), (5, _), (6, _), (7, _), (8, _), (9, _), (10, _), (11, _)]) [0, 1, 2, 3, 4, 5, 6, 7, 8, 9, 10, 11] rfl (l_L_isCanal_L882 E hr hk612 _ _ _ _ _ _ _ _ _ _ _ _ h)
    · replace h := h.2 q111
      exact ra_sub (L' := [(0, _), (1, _), (2, _), (3, _), (4, _), (5, _), (6, _), (7, _), (8, _), (9, _), (10, _), (11, _)]) [0, 1, 2, 3, 4, 5, 6, 7, 8, 9, 10, 11] rfl (l_L_isCanal_L867 E hr hk612 _ _ _ _ _ _ _ _ _ _ _ _ h)
def f_L_isCanal_L814  (K : Int32 → TM → Prop) (k612 : Int32 → Int32 → Int32 → Int32 → Int32 → Int32 → Int32 → Int32 → Int32 → Int32 → Int32 → TM → Prop) (x1 : Int32) (x2 : Int32) (x3 : Int32) (x4 : Int32) (x5 : Int32) (x6 : Int32) (x7 : Int32) (x8 : Int32) (x9 : Int32) (x10 : Int32) (x11 : Int32) (x12 : Int32) (x13 : Int32) (M : TM) : Prop := f_X12_isOpen x11 M (fun r80 M79 => ((r80 = 0 → f_L_isCanal_L853 K k612 x1 x2 x3 x4 x5 x6 x7 x8 x9 x10 x11 x12 M79) ∧ (¬ r80 = 0 → ((¬ x12 = 0 → K (0 : Int32) M79) ∧ (x12 = 0 → ((¬ x13 = 0 → K (0 : Int32) M79) ∧ (x13 = 0 → ((x10 < 0 → K (0 : Int32) M79) ∧ (¬ x10 < 0 → f_X12_deadline x11 M79 (fun r116 M115 => f_X12_deadline x10 M115 (fun r118 M117 => ((r116 < r118 → K (0 : Int32) M117) ∧ (¬ r116 < r118 → f_L_isCanal_L853 K k612 x1 x2 x3 x4 x5 x6 x7 x8 x9 x10 x11 x12 M117)))))))))))))
set_option maxRecDepth 100000 in
set_option maxHeartbeats 4000000 in
theorem l_L_isCanal_L814 {p : Program} {l : Launch} {e : Env} {s : State} {m : MethodId} {args : Array Value} {below : List Frame} {meth : Method} {c : Code} {D : va_G} {tc : Nat → ClassId} {ad : Nat → Nat}  {K : Int32 → TM → Prop} {k612 : Int32 → Int32 → Int32 → Int32 → Int32 → Int32 → Int32 → Int32 → Int32 → Int32 → Int32 → TM → Prop} (E : Ev p s m args meth c D tc ad RL cL_isCanal 16) (hr : meth.sig.returnType = (some .boolean)) (hk612 : ∀ (x1 : Int32) (x2 : Int32) (x3 : Int32) (x4 : Int32) (x5 : Int32) (x6 : Int32) (x7 : Int32) (x8 : Int32) (x9 : Int32) (x10 : Int32) (x11 : Int32) (M : TM) , k612 x1 x2 x3 x4 x5 x6 x7 x8 x9 x10 x11 M → Wa p l e (rmD 5) s m args below meth c 0 0 (MQ below (va_Qi (fun r M' => (r = 0 ∨ r = 1) ∧ K r M') (EndW D tc ad) (A0 ad s.heap.size)) args s 0 0 (A0 ad s.heap.size)) D tc ad 16 M 612 [(0, .ref (ad 0)), (1, .int x1), (2, .int x2), (3, .int x3), (4, .int x4), (5, .int x5), (6, .int x6), (7, .int x7), (8, .int x8), (9, .int x9), (10, .int x10), (11, .int x11)] []) : ∀ (x1 : Int32) (x2 : Int32) (x3 : Int32) (x4 : Int32) (x5 : Int32) (x6 : Int32) (x7 : Int32) (x8 : Int32) (x9 : Int32) (x10 : Int32) (x11 : Int32) (x12 : Int32) (x13 : Int32) (M : TM) , f_L_isCanal_L814  K k612 x1 x2 x3 x4 x5 x6 x7 x8 x9 x10 x11 x12 x13 M → Wa p l e (rmD 5) s m args below meth c 0 0 (MQ below (va_Qi (fun r M' => (r = 0 ∨ r = 1) ∧ K r M') (EndW D tc ad) (A0 ad s.heap.size)) args s 0 0 (A0 ad s.heap.size)) D tc ad 16 M 814 [(0, .ref (ad 0)), (1, .int x1), (2, .int x2), (3, .int x3), (4, .int x4), (5, .int x5), (6, .int x6), (7, .int x7), (8, .int x8), (9, .int x9), (10, .int x10), (11, .int x11), (12, .int x12), (13, .int x13)] [] := by
  intro x1 x2 x3 x4 x5 x6 x7 x8 x9 x10 x11 x12 x13 M  h
  unfold f_L_isCanal_L814 at h
  refine ra_aload_n E dL_isCanal_814 rfl 0 rfl ?_
  refine ra_iload E dL_isCanal_815 11 rfl ?_
  refine ra_callIV (rest := []) E (c_X12_isOpen _ _ _ h) (lq_X12 _) cv_X12_isOpen ml_L_83 (by decide) (lm (by decide)) (fun R => ⟨_, cel_0 tc ad R⟩) rfl rfl rfl (Nat.le_of_ble_eq_true rfl) ⟨Nat.le_of_ble_eq_true rfl, Nat.le_of_ble_eq_true rfl⟩ ⟨Nat.zero_le _, Nat.zero_le _⟩ dL_isCanal_817 (fun r80 M79 h => ?_)
  obtain ⟨b81, h⟩ := h
  refine ra_if_eq (tgt := 853) E dL_isCanal_820 (by decide) (fun q82 => ?_) (fun q82 => ?_)
  · replace h := h.1 q82
    exact ra_sub (L' := [(0, _), (1, _), (2, _), (3, _), (4, _), (5, _), (6, _), (7, _), (8, _), (9, _), (10, _), (11, _), (12, _)]) [0, 1, 2, 3, 4, 5, 6, 7, 8, 9, 10, 11, 12] rfl (l_L_isCanal_L853 E hr hk612 _ _ _ _ _ _ _ _ _ _ _ _ _ h)
  · replace h := h.2 q82
    refine ra_iload E dL_isCanal_823 12 rfl ?_
    refine ra_if_ne (tgt := 880) E dL_isCanal_825 (by decide) (fun q112 => ?_) (fun q112 => ?_)
    · replace h := h.1 q112
      refine ra_iconst E dL_isCanal_880 ki_0 ?_
      exact ra_zret E hr rfl dL_isCanal_881 ⟨Or.inl rfl, h⟩
    · replace h := h.2 q112
      refine ra_iload E dL_isCanal_828 13 rfl ?_
      refine ra_if_ne (tgt := 880) E dL_isCanal_830 (by decide) (fun q113 => ?_) (fun q113 => ?_)
      · replace h := h.1 q113
        refine ra_iconst E dL_isCanal_880 ki_0 ?_
        exact ra_zret E hr rfl dL_isCanal_881 ⟨Or.inl rfl, h⟩
      · replace h := h.2 q113
        refine ra_iload E dL_isCanal_833 10 rfl ?_
        refine ra_if_lt (tgt := 880) E dL_isCanal_835 (by decide) (fun q114 => ?_) (fun q114 => ?_)
        · replace h := h.1 q114
          refine ra_iconst E dL_isCanal_880 ki_0 ?_
          exact ra_zret E hr rfl dL_isCanal_881 ⟨Or.inl rfl, h⟩
        · replace h := h.2 q114
          refine ra_aload_n E dL_isCanal_838 rfl 0 rfl ?_
          refine ra_iload E dL_isCanal_839 11 rfl ?_
          refine ra_callIV (rest := []) E (c_X12_deadline _ _ _ h) (lq_X12 _) cv_X12_deadline ml_L_80 (by decide) (lm (by decide)) (fun R => ⟨_, cel_0 tc ad R⟩) rfl rfl rfl (Nat.le_of_ble_eq_true rfl) ⟨Nat.le_of_ble_eq_true rfl, Nat.le_of_ble_eq_true rfl⟩ ⟨Nat.zero_le _, Nat.zero_le _⟩ dL_isCanal_841 (fun r116 M115 h => ?_)
          refine ra_aload_n E dL_isCanal_844 rfl 0 rfl ?_
          refine ra_iload E dL_isCanal_845 10 rfl ?_
          refine ra_callIV (rest := [_]) E (c_X12_deadline _ _ _ h) (lq_X12 _) cv_X12_deadline ml_L_80 (by decide) (lm (by decide)) (fun R => ⟨_, cel_0 tc ad R⟩) rfl rfl rfl (Nat.le_of_ble_eq_true rfl) ⟨Nat.le_of_ble_eq_true rfl, Nat.le_of_ble_eq_true rfl⟩ ⟨Nat.zero_le _, Nat.zero_le _⟩ dL_isCanal_847 (fun r118 M117 h => ?_)
          refine ra_icmp_lt (tgt := 880) E dL_isCanal_850 (by decide) (fun q119 => ?_) (fun q119 => ?_)
          · replace h := h.1 q119
            refine ra_iconst E dL_isCanal_880 ki_0 ?_
            exact ra_zret E hr rfl dL_isCanal_881 ⟨Or.inl rfl, h⟩
          · replace h := h.2 q119
            exact ra_sub (L' := [(0, _), (1, _), (2, _), (3, _), (4, _), (5, _), (6, _), (7, _), (8, _), (9, _), (10, _), (11, _), (12, _)]) [0, 1, 2, 3, 4, 5, 6, 7, 8, 9, 10, 11, 12] rfl (l_L_isCanal_L853 E hr hk612 _ _ _ _ _ _ _ _ _ _ _ _ _ h)
def f_L_isCanal_L786  (K : Int32 → TM → Prop) (k612 : Int32 → Int32 → Int32 → Int32 → Int32 → Int32 → Int32 → Int32 → Int32 → Int32 → Int32 → TM → Prop) (x1 : Int32) (x2 : Int32) (x3 : Int32) (x4 : Int32) (x5 : Int32) (x6 : Int32) (x7 : Int32) (x8 : Int32) (x9 : Int32) (x10 : Int32) (x11 : Int32) (x12 : Int32) (x13 : Int32) (M : TM) : Prop := f_X12_isEaten x11 M (fun r76 M75 => ((r76 = 0 → f_L_isCanal_L814 K k612 x1 x2 x3 x4 x5 x6 x7 x8 x9 x10 x11 x12 x13 M75) ∧ (¬ r76 = 0 → ((¬ x12 = 0 → K (0 : Int32) M75) ∧ (x12 = 0 → f_X12_pullsLeft x11 M75 (fun r122 M121 => ((¬ r122 = 0 → K (0 : Int32) M121) ∧ (r122 = 0 → ((x13 = 0 → K (0 : Int32) M121) ∧ (¬ x13 = 0 → f_L_isCanal_L814 K k612 x1 x2 x3 x4 x5 x6 x7 x8 x9 x10 x11 x12 x13 M121))))))))))
set_option maxRecDepth 100000 in
set_option maxHeartbeats 4000000 in
theorem l_L_isCanal_L786 {p : Program} {l : Launch} {e : Env} {s : State} {m : MethodId} {args : Array Value} {below : List Frame} {meth : Method} {c : Code} {D : va_G} {tc : Nat → ClassId} {ad : Nat → Nat}  {K : Int32 → TM → Prop} {k612 : Int32 → Int32 → Int32 → Int32 → Int32 → Int32 → Int32 → Int32 → Int32 → Int32 → Int32 → TM → Prop} (E : Ev p s m args meth c D tc ad RL cL_isCanal 16) (hr : meth.sig.returnType = (some .boolean)) (hk612 : ∀ (x1 : Int32) (x2 : Int32) (x3 : Int32) (x4 : Int32) (x5 : Int32) (x6 : Int32) (x7 : Int32) (x8 : Int32) (x9 : Int32) (x10 : Int32) (x11 : Int32) (M : TM) , k612 x1 x2 x3 x4 x5 x6 x7 x8 x9 x10 x11 M → Wa p l e (rmD 5) s m args below meth c 0 0 (MQ below (va_Qi (fun r M' => (r = 0 ∨ r = 1) ∧ K r M') (EndW D tc ad) (A0 ad s.heap.size)) args s 0 0 (A0 ad s.heap.size)) D tc ad 16 M 612 [(0, .ref (ad 0)), (1, .int x1), (2, .int x2), (3, .int x3), (4, .int x4), (5, .int x5), (6, .int x6), (7, .int x7), (8, .int x8), (9, .int x9), (10, .int x10), (11, .int x11)] []) : ∀ (x1 : Int32) (x2 : Int32) (x3 : Int32) (x4 : Int32) (x5 : Int32) (x6 : Int32) (x7 : Int32) (x8 : Int32) (x9 : Int32) (x10 : Int32) (x11 : Int32) (x12 : Int32) (x13 : Int32) (M : TM) , f_L_isCanal_L786  K k612 x1 x2 x3 x4 x5 x6 x7 x8 x9 x10 x11 x12 x13 M → Wa p l e (rmD 5) s m args below meth c 0 0 (MQ below (va_Qi (fun r M' => (r = 0 ∨ r = 1) ∧ K r M') (EndW D tc ad) (A0 ad s.heap.size)) args s 0 0 (A0 ad s.heap.size)) D tc ad 16 M 786 [(0, .ref (ad 0)), (1, .int x1), (2, .int x2), (3, .int x3), (4, .int x4), (5, .int x5), (6, .int x6), (7, .int x7), (8, .int x8), (9, .int x9), (10, .int x10), (11, .int x11), (12, .int x12), (13, .int x13)] [] := by
  intro x1 x2 x3 x4 x5 x6 x7 x8 x9 x10 x11 x12 x13 M  h
  unfold f_L_isCanal_L786 at h
  refine ra_aload_n E dL_isCanal_786 rfl 0 rfl ?_
  refine ra_iload E dL_isCanal_787 11 rfl ?_
  refine ra_callIV (rest := []) E (c_X12_isEaten _ _ _ h) (lq_X12 _) cv_X12_isEaten ml_L_90 (by decide) (lm (by decide)) (fun R => ⟨_, cel_0 tc ad R⟩) rfl rfl rfl (Nat.le_of_ble_eq_true rfl) ⟨Nat.le_of_ble_eq_true rfl, Nat.le_of_ble_eq_true rfl⟩ ⟨Nat.zero_le _, Nat.zero_le _⟩ dL_isCanal_789 (fun r76 M75 h => ?_)
  obtain ⟨b77, h⟩ := h
  refine ra_if_eq (tgt := 814) E dL_isCanal_792 (by decide) (fun q78 => ?_) (fun q78 => ?_)
  · replace h := h.1 q78
    exact ra_sub (L' := [(0, _), (1, _), (2, _), (3, _), (4, _), (5, _), (6, _), (7, _), (8, _), (9, _), (10, _), (11, _), (12, _), (13, _)]) [0, 1, 2, 3, 4, 5, 6, 7, 8, 9, 10, 11, 12, 13] rfl (l_L_isCanal_L814 E hr hk612 _ _ _ _ _ _ _ _ _ _ _ _ _ _ h)
  · replace h := h.2 q78
    refine ra_iload E dL_isCanal_795 12 rfl ?_
    refine ra_if_ne (tgt := 880) E dL_isCanal_797 (by decide) (fun q120 => ?_) (fun q120 => ?_)
    · replace h := h.1 q120
      refine ra_iconst E dL_isCanal_880 ki_0 ?_
      exact ra_zret E hr rfl dL_isCanal_881 ⟨Or.inl rfl, h⟩
    · replace h := h.2 q120
      refine ra_aload_n E dL_isCanal_800 rfl 0 rfl ?_
      refine ra_iload E dL_isCanal_801 11 rfl ?_
      refine ra_callIV (rest := []) E (c_X12_pullsLeft _ _ _ h) (lq_X12 _) cv_X12_pullsLeft ml_L_74 (by decide) (lm (by decide)) (fun R => ⟨_, cel_0 tc ad R⟩) rfl rfl rfl (Nat.le_of_ble_eq_true rfl) ⟨Nat.le_of_ble_eq_true rfl, Nat.le_of_ble_eq_true rfl⟩ ⟨Nat.zero_le _, Nat.zero_le _⟩ dL_isCanal_803 (fun r122 M121 h => ?_)
      refine ra_if_ne (tgt := 880) E dL_isCanal_806 (by decide) (fun q123 => ?_) (fun q123 => ?_)
      · replace h := h.1 q123
        refine ra_iconst E dL_isCanal_880 ki_0 ?_
        exact ra_zret E hr rfl dL_isCanal_881 ⟨Or.inl rfl, h⟩
      · replace h := h.2 q123
        refine ra_iload E dL_isCanal_809 13 rfl ?_
        refine ra_if_eq (tgt := 880) E dL_isCanal_811 (by decide) (fun q124 => ?_) (fun q124 => ?_)
        · replace h := h.1 q124
          refine ra_iconst E dL_isCanal_880 ki_0 ?_
          exact ra_zret E hr rfl dL_isCanal_881 ⟨Or.inl rfl, h⟩
        · replace h := h.2 q124
          exact ra_sub (L' := [(0, _), (1, _), (2, _), (3, _), (4, _), (5, _), (6, _), (7, _), (8, _), (9, _), (10, _), (11, _), (12, _), (13, _)]) [0, 1, 2, 3, 4, 5, 6, 7, 8, 9, 10, 11, 12, 13] rfl (l_L_isCanal_L814 E hr hk612 _ _ _ _ _ _ _ _ _ _ _ _ _ _ h)
def f_L_isCanal_L760  (K : Int32 → TM → Prop) (k612 : Int32 → Int32 → Int32 → Int32 → Int32 → Int32 → Int32 → Int32 → Int32 → Int32 → Int32 → TM → Prop) (x1 : Int32) (x2 : Int32) (x3 : Int32) (x4 : Int32) (x5 : Int32) (x6 : Int32) (x7 : Int32) (x9 : Int32) (x10 : Int32) (x11 : Int32) (x12 : Int32) (x13 : Int32) (z0 : Int32) (z1 : Int32) (M : TM) : Prop := f_X12_isReady x11 M (fun r72 M71 => ((r72 = 0 → f_L_isCanal_L786 K k612 x1 x2 x3 x4 x5 x6 x7 (z1 + z0) x9 x10 x11 x12 x13 M71) ∧ (¬ r72 = 0 → ((x12 = 0 → K (0 : Int32) M71) ∧ (¬ x12 = 0 → f_X12_pullsLeft x11 M71 (fun r127 M126 => ((¬ r127 = 0 → K (0 : Int32) M126) ∧ (r127 = 0 → f_L_isCanal_L786 K k612 x1 x2 x3 x4 x5 x6 x7 (z1 + z0) x9 x10 x11 x12 x13 M126))))))))
set_option maxRecDepth 100000 in
set_option maxHeartbeats 4000000 in
theorem l_L_isCanal_L760 {p : Program} {l : Launch} {e : Env} {s : State} {m : MethodId} {args : Array Value} {below : List Frame} {meth : Method} {c : Code} {D : va_G} {tc : Nat → ClassId} {ad : Nat → Nat}  {K : Int32 → TM → Prop} {k612 : Int32 → Int32 → Int32 → Int32 → Int32 → Int32 → Int32 → Int32 → Int32 → Int32 → Int32 → TM → Prop} (E : Ev p s m args meth c D tc ad RL cL_isCanal 16) (hr : meth.sig.returnType = (some .boolean)) (hk612 : ∀ (x1 : Int32) (x2 : Int32) (x3 : Int32) (x4 : Int32) (x5 : Int32) (x6 : Int32) (x7 : Int32) (x8 : Int32) (x9 : Int32) (x10 : Int32) (x11 : Int32) (M : TM) , k612 x1 x2 x3 x4 x5 x6 x7 x8 x9 x10 x11 M → Wa p l e (rmD 5) s m args below meth c 0 0 (MQ below (va_Qi (fun r M' => (r = 0 ∨ r = 1) ∧ K r M') (EndW D tc ad) (A0 ad s.heap.size)) args s 0 0 (A0 ad s.heap.size)) D tc ad 16 M 612 [(0, .ref (ad 0)), (1, .int x1), (2, .int x2), (3, .int x3), (4, .int x4), (5, .int x5), (6, .int x6), (7, .int x7), (8, .int x8), (9, .int x9), (10, .int x10), (11, .int x11)] []) : ∀ (x1 : Int32) (x2 : Int32) (x3 : Int32) (x4 : Int32) (x5 : Int32) (x6 : Int32) (x7 : Int32) (x9 : Int32) (x10 : Int32) (x11 : Int32) (x12 : Int32) (x13 : Int32) (z0 : Int32) (z1 : Int32) (M : TM) , f_L_isCanal_L760  K k612 x1 x2 x3 x4 x5 x6 x7 x9 x10 x11 x12 x13 z0 z1 M → Wa p l e (rmD 5) s m args below meth c 0 0 (MQ below (va_Qi (fun r M' => (r = 0 ∨ r = 1) ∧ K r M') (EndW D tc ad) (A0 ad s.heap.size)) args s 0 0 (A0 ad s.heap.size)) D tc ad 16 M 760 [(0, .ref (ad 0)), (1, .int x1), (2, .int x2), (3, .int x3), (4, .int x4), (5, .int x5), (6, .int x6), (7, .int x7), (9, .int x9), (10, .int x10), (11, .int x11), (12, .int x12), (13, .int x13)] [.int z0, .int z1] := by
  intro x1 x2 x3 x4 x5 x6 x7 x9 x10 x11 x12 x13 z0 z1 M  h
  unfold f_L_isCanal_L760 at h
  refine ra_iadd E dL_isCanal_760 ?_
  refine ra_istore (L' := [(8, _), (0, _), (1, _), (2, _), (3, _), (4, _), (5, _), (6, _), (7, _), (9, _), (10, _), (11, _), (12, _), (13, _)]) E dL_isCanal_761 (by decide) rfl ?_
  refine ra_aload_n E dL_isCanal_763 rfl 1 rfl ?_
  refine ra_iload E dL_isCanal_764 11 rfl ?_
  refine ra_callIV (rest := []) E (c_X12_isReady _ _ _ h) (lq_X12 _) cv_X12_isReady ml_L_87 (by decide) (lm (by decide)) (fun R => ⟨_, cel_0 tc ad R⟩) rfl rfl rfl (Nat.le_of_ble_eq_true rfl) ⟨Nat.le_of_ble_eq_true rfl, Nat.le_of_ble_eq_true rfl⟩ ⟨Nat.zero_le _, Nat.zero_le _⟩ dL_isCanal_766 (fun r72 M71 h => ?_)
  obtain ⟨b73, h⟩ := h
  refine ra_if_eq (tgt := 786) E dL_isCanal_769 (by decide) (fun q74 => ?_) (fun q74 => ?_)
  · replace h := h.1 q74
    exact ra_sub (L' := [(0, _), (1, _), (2, _), (3, _), (4, _), (5, _), (6, _), (7, _), (8, _), (9, _), (10, _), (11, _), (12, _), (13, _)]) [1, 2, 3, 4, 5, 6, 7, 8, 0, 9, 10, 11, 12, 13] rfl (l_L_isCanal_L786 E hr hk612 _ _ _ _ _ _ _ _ _ _ _ _ _ _ h)
  · replace h := h.2 q74
    refine ra_iload E dL_isCanal_772 12 rfl ?_
    refine ra_if_eq (tgt := 880) E dL_isCanal_774 (by decide) (fun q125 => ?_) (fun q125 => ?_)
    · replace h := h.1 q125
      refine ra_iconst E dL_isCanal_880 ki_0 ?_
      exact ra_zret E hr rfl dL_isCanal_881 ⟨Or.inl rfl, h⟩
    · replace h := h.2 q125
      refine ra_aload_n E dL_isCanal_777 rfl 1 rfl ?_
      refine ra_iload E dL_isCanal_778 11 rfl ?_
      refine ra_callIV (rest := []) E (c_X12_pullsLeft _ _ _ h) (lq_X12 _) cv_X12_pullsLeft ml_L_74 (by decide) (lm (by decide)) (fun R => ⟨_, cel_0 tc ad R⟩) rfl rfl rfl (Nat.le_of_ble_eq_true rfl) ⟨Nat.le_of_ble_eq_true rfl, Nat.le_of_ble_eq_true rfl⟩ ⟨Nat.zero_le _, Nat.zero_le _⟩ dL_isCanal_780 (fun r127 M126 h => ?_)
      refine ra_if_ne (tgt := 880) E dL_isCanal_783 (by decide) (fun q128 => ?_) (fun q128 => ?_)
      · replace h := h.1 q128
        refine ra_iconst E dL_isCanal_880 ki_0 ?_
        exact ra_zret E hr rfl dL_isCanal_881 ⟨Or.inl rfl, h⟩
      · replace h := h.2 q128
        exact ra_sub (L' := [(0, _), (1, _), (2, _), (3, _), (4, _), (5, _), (6, _), (7, _), (8, _), (9, _), (10, _), (11, _), (12, _), (13, _)]) [1, 2, 3, 4, 5, 6, 7, 8, 0, 9, 10, 11, 12, 13] rfl (l_L_isCanal_L786 E hr hk612 _ _ _ _ _ _ _ _ _ _ _ _ _ _ h)
def f_L_isCanal_L759  (K : Int32 → TM → Prop) (k612 : Int32 → Int32 → Int32 → Int32 → Int32 → Int32 → Int32 → Int32 → Int32 → Int32 → Int32 → TM → Prop) (x1 : Int32) (x2 : Int32) (x3 : Int32) (x4 : Int32) (x5 : Int32) (x6 : Int32) (x7 : Int32) (x9 : Int32) (x10 : Int32) (x11 : Int32) (x12 : Int32) (x13 : Int32) (z0 : Int32) (M : TM) : Prop := f_L_isCanal_L760 K k612 x1 x2 x3 x4 x5 x6 x7 x9 x10 x11 x12 x13 (0 : Int32) z0 M
set_option maxRecDepth 100000 in
set_option maxHeartbeats 4000000 in
theorem l_L_isCanal_L759 {p : Program} {l : Launch} {e : Env} {s : State} {m : MethodId} {args : Array Value} {below : List Frame} {meth : Method} {c : Code} {D : va_G} {tc : Nat → ClassId} {ad : Nat → Nat}  {K : Int32 → TM → Prop} {k612 : Int32 → Int32 → Int32 → Int32 → Int32 → Int32 → Int32 → Int32 → Int32 → Int32 → Int32 → TM → Prop} (E : Ev p s m args meth c D tc ad RL cL_isCanal 16) (hr : meth.sig.returnType = (some .boolean)) (hk612 : ∀ (x1 : Int32) (x2 : Int32) (x3 : Int32) (x4 : Int32) (x5 : Int32) (x6 : Int32) (x7 : Int32) (x8 : Int32) (x9 : Int32) (x10 : Int32) (x11 : Int32) (M : TM) , k612 x1 x2 x3 x4 x5 x6 x7 x8 x9 x10 x11 M → Wa p l e (rmD 5) s m args below meth c 0 0 (MQ below (va_Qi (fun r M' => (r = 0 ∨ r = 1) ∧ K r M') (EndW D tc ad) (A0 ad s.heap.size)) args s 0 0 (A0 ad s.heap.size)) D tc ad 16 M 612 [(0, .ref (ad 0)), (1, .int x1), (2, .int x2), (3, .int x3), (4, .int x4), (5, .int x5), (6, .int x6), (7, .int x7), (8, .int x8), (9, .int x9), (10, .int x10), (11, .int x11)] []) : ∀ (x1 : Int32) (x2 : Int32) (x3 : Int32) (x4 : Int32) (x5 : Int32) (x6 : Int32) (x7 : Int32) (x9 : Int32) (x10 : Int32) (x11 : Int32) (x12 : Int32) (x13 : Int32) (z0 : Int32) (M : TM) , f_L_isCanal_L759  K k612 x1 x2 x3 x4 x5 x6 x7 x9 x10 x11 x12 x13 z0 M → Wa p l e (rmD 5) s m args below meth c 0 0 (MQ below (va_Qi (fun r M' => (r = 0 ∨ r = 1) ∧ K r M') (EndW D tc ad) (A0 ad s.heap.size)) args s 0 0 (A0 ad s.heap.size)) D tc ad 16 M 759 [(0, .ref (ad 0)), (1, .int x1), (2, .int x2), (3, .int x3), (4, .int x4), (5, .int x5), (6, .int x6), (7, .int x7), (9, .int x9), (10, .int x10), (11, .int x11), (12, .int x12), (13, .int x13)] [.int z0] := by
  intro x1 x2 x3 x4 x5 x6 x7 x9 x10 x11 x12 x13 z0 M  h
  unfold f_L_isCanal_L759 at h
  refine ra_iconst E dL_isCanal_759 ki_0 ?_
  exact ra_sub (L' := [(0, _), (1, _), (2, _), (3, _), (4, _), (5, _), (6, _), (7, _), (9, _), (10, _), (11, _), (12, _), (13, _)]) [0, 1, 2, 3, 4, 5, 6, 7, 8, 9, 10, 11, 12] rfl (l_L_isCanal_L760 E hr hk612 _ _ _ _ _ _ _ _ _ _ _ _ _ _ _ h)
def f_L_isCanal_L728  (K : Int32 → TM → Prop) (k612 : Int32 → Int32 → Int32 → Int32 → Int32 → Int32 → Int32 → Int32 → Int32 → Int32 → Int32 → TM → Prop) (x1 : Int32) (x2 : Int32) (x3 : Int32) (x4 : Int32) (x5 : Int32) (x6 : Int32) (x7 : Int32) (x8 : Int32) (x9 : Int32) (x10 : Int32) (x11 : Int32) (x12 : Int32) (z0 : Int32) (M : TM) : Prop := ((¬ x12 = 0 → f_L_isCanal_L759 K k612 x1 x2 x3 x4 x5 x6 x7 x9 x10 x11 x12 z0 x8 M) ∧ (x12 = 0 → f_X12_isOpen x11 M (fun r130 M129 => ((¬ r130 = 0 → f_L_isCanal_L759 K k612 x1 x2 x3 x4 x5 x6 x7 x9 x10 x11 x12 z0 x8 M129) ∧ (r130 = 0 → f_X12_isEaten x11 M129 (fun r134 M133 => ((¬ r134 = 0 → f_L_isCanal_L759 K k612 x1 x2 x3 x4 x5 x6 x7 x9 x10 x11 x12 z0 x8 M133) ∧ (r134 = 0 → f_L_isCanal_L760 K k612 x1 x2 x3 x4 x5 x6 x7 x9 x10 x11 x12 z0 (1 : Int32) x8 M133))))))))
set_option maxRecDepth 100000 in
set_option maxHeartbeats 4000000 in
theorem l_L_isCanal_L728 {p : Program} {l : Launch} {e : Env} {s : State} {m : MethodId} {args : Array Value} {below : List Frame} {meth : Method} {c : Code} {D : va_G} {tc : Nat → ClassId} {ad : Nat → Nat}  {K : Int32 → TM → Prop} {k612 : Int32 → Int32 → Int32 → Int32 → Int32 → Int32 → Int32 → Int32 → Int32 → Int32 → Int32 → TM → Prop} (E : Ev p s m args meth c D tc ad RL cL_isCanal 16) (hr : meth.sig.returnType = (some .boolean)) (hk612 : ∀ (x1 : Int32) (x2 : Int32) (x3 : Int32) (x4 : Int32) (x5 : Int32) (x6 : Int32) (x7 : Int32) (x8 : Int32) (x9 : Int32) (x10 : Int32) (x11 : Int32) (M : TM) , k612 x1 x2 x3 x4 x5 x6 x7 x8 x9 x10 x11 M → Wa p l e (rmD 5) s m args below meth c 0 0 (MQ below (va_Qi (fun r M' => (r = 0 ∨ r = 1) ∧ K r M') (EndW D tc ad) (A0 ad s.heap.size)) args s 0 0 (A0 ad s.heap.size)) D tc ad 16 M 612 [(0, .ref (ad 0)), (1, .int x1), (2, .int x2), (3, .int x3), (4, .int x4), (5, .int x5), (6, .int x6), (7, .int x7), (8, .int x8), (9, .int x9), (10, .int x10), (11, .int x11)] []) : ∀ (x1 : Int32) (x2 : Int32) (x3 : Int32) (x4 : Int32) (x5 : Int32) (x6 : Int32) (x7 : Int32) (x8 : Int32) (x9 : Int32) (x10 : Int32) (x11 : Int32) (x12 : Int32) (z0 : Int32) (M : TM) , f_L_isCanal_L728  K k612 x1 x2 x3 x4 x5 x6 x7 x8 x9 x10 x11 x12 z0 M → Wa p l e (rmD 5) s m args below meth c 0 0 (MQ below (va_Qi (fun r M' => (r = 0 ∨ r = 1) ∧ K r M') (EndW D tc ad) (A0 ad s.heap.size)) args s 0 0 (A0 ad s.heap.size)) D tc ad 16 M 728 [(0, .ref (ad 0)), (1, .int x1), (2, .int x2), (3, .int x3), (4, .int x4), (5, .int x5), (6, .int x6), (7, .int x7), (8, .int x8), (9, .int x9), (10, .int x10), (11, .int x11), (12, .int x12)] [.int z0] := by
  intro x1 x2 x3 x4 x5 x6 x7 x8 x9 x10 x11 x12 z0 M  h
  unfold f_L_isCanal_L728 at h
  refine ra_istore (L' := [(13, _), (0, _), (1, _), (2, _), (3, _), (4, _), (5, _), (6, _), (7, _), (8, _), (9, _), (10, _), (11, _), (12, _)]) E dL_isCanal_728 (by decide) rfl ?_
  refine ra_iload E dL_isCanal_730 9 rfl ?_
  refine ra_iload E dL_isCanal_732 13 rfl ?_
  refine ra_if_ne (tgt := 759) E dL_isCanal_734 (by decide) (fun q70 => ?_) (fun q70 => ?_)
  · replace h := h.1 q70
    exact ra_sub (L' := [(0, _), (1, _), (2, _), (3, _), (4, _), (5, _), (6, _), (7, _), (9, _), (10, _), (11, _), (12, _), (13, _)]) [1, 2, 3, 4, 5, 6, 7, 8, 10, 11, 12, 13, 0] rfl (l_L_isCanal_L759 E hr hk612 _ _ _ _ _ _ _ _ _ _ _ _ _ _ h)
  · replace h := h.2 q70
    refine ra_aload_n E dL_isCanal_737 rfl 1 rfl ?_
    refine ra_iload E dL_isCanal_738 12 rfl ?_
    refine ra_callIV (rest := [_]) E (c_X12_isOpen _ _ _ h) (lq_X12 _) cv_X12_isOpen ml_L_83 (by decide) (lm (by decide)) (fun R => ⟨_, cel_0 tc ad R⟩) rfl rfl rfl (Nat.le_of_ble_eq_true rfl) ⟨Nat.le_of_ble_eq_true rfl, Nat.le_of_ble_eq_true rfl⟩ ⟨Nat.zero_le _, Nat.zero_le _⟩ dL_isCanal_740 (fun r130 M129 h => ?_)
    obtain ⟨b131, h⟩ := h
    refine ra_if_ne (tgt := 759) E dL_isCanal_743 (by decide) (fun q132 => ?_) (fun q132 => ?_)
    · replace h := h.1 q132
      exact ra_sub (L' := [(0, _), (1, _), (2, _), (3, _), (4, _), (5, _), (6, _), (7, _), (9, _), (10, _), (11, _), (12, _), (13, _)]) [1, 2, 3, 4, 5, 6, 7, 8, 10, 11, 12, 13, 0] rfl (l_L_isCanal_L759 E hr hk612 _ _ _ _ _ _ _ _ _ _ _ _ _ _ h)
    · replace h := h.2 q132
      refine ra_aload_n E dL_isCanal_746 rfl 1 rfl ?_
      refine ra_iload E dL_isCanal_747 12 rfl ?_
      refine ra_callIV (rest := [_]) E (c_X12_isEaten _ _ _ h) (lq_X12 _) cv_X12_isEaten ml_L_90 (by decide) (lm (by decide)) (fun R => ⟨_, cel_0 tc ad R⟩) rfl rfl rfl (Nat.le_of_ble_eq_true rfl) ⟨Nat.le_of_ble_eq_true rfl, Nat.le_of_ble_eq_true rfl⟩ ⟨Nat.zero_le _, Nat.zero_le _⟩ dL_isCanal_749 (fun r134 M133 h => ?_)
      obtain ⟨b135, h⟩ := h
      refine ra_if_ne (tgt := 759) E dL_isCanal_752 (by decide) (fun q136 => ?_) (fun q136 => ?_)
      · replace h := h.1 q136
        exact ra_sub (L' := [(0, _), (1, _), (2, _), (3, _), (4, _), (5, _), (6, _), (7, _), (9, _), (10, _), (11, _), (12, _), (13, _)]) [1, 2, 3, 4, 5, 6, 7, 8, 10, 11, 12, 13, 0] rfl (l_L_isCanal_L759 E hr hk612 _ _ _ _ _ _ _ _ _ _ _ _ _ _ h)
      · replace h := h.2 q136
        refine ra_iconst E dL_isCanal_755 ki_1 ?_
        refine ra_goto (tgt := 760) E dL_isCanal_756 (by decide) ?_
        exact ra_sub (L' := [(0, _), (1, _), (2, _), (3, _), (4, _), (5, _), (6, _), (7, _), (9, _), (10, _), (11, _), (12, _), (13, _)]) [1, 2, 3, 4, 5, 6, 7, 8, 10, 11, 12, 13, 0] rfl (l_L_isCanal_L760 E hr hk612 _ _ _ _ _ _ _ _ _ _ _ _ _ _ _ h)
def f_L_isCanal_L697  (K : Int32 → TM → Prop) (k612 : Int32 → Int32 → Int32 → Int32 → Int32 → Int32 → Int32 → Int32 → Int32 → Int32 → Int32 → TM → Prop) (x1 : Int32) (x2 : Int32) (x3 : Int32) (x4 : Int32) (x5 : Int32) (x6 : Int32) (x7 : Int32) (x8 : Int32) (x9 : Int32) (x10 : Int32) (x11 : Int32) (z0 : Int32) (M : TM) : Prop := f_X12_minute M (fun r62 M61 => f_X12_orderCount M61 (fun r64 M63 => ¬ r64 = 0 ∧ ((¬ x11 = (r62 - r62 / r64 * r64) → f_X12_isEaten x11 M63 (fun r68 M67 => f_L_isCanal_L728 K k612 x1 x2 x3 x4 x5 x6 x7 x8 x9 x10 x11 z0 r68 M67)) ∧ (x11 = (r62 - r62 / r64 * r64) → f_X12_willBeEaten x11 M63 (fun r138 M137 => f_L_isCanal_L728 K k612 x1 x2 x3 x4 x5 x6 x7 x8 x9 x10 x11 z0 r138 M137)))))
set_option maxRecDepth 100000 in
set_option maxHeartbeats 4000000 in
theorem l_L_isCanal_L697 {p : Program} {l : Launch} {e : Env} {s : State} {m : MethodId} {args : Array Value} {below : List Frame} {meth : Method} {c : Code} {D : va_G} {tc : Nat → ClassId} {ad : Nat → Nat}  {K : Int32 → TM → Prop} {k612 : Int32 → Int32 → Int32 → Int32 → Int32 → Int32 → Int32 → Int32 → Int32 → Int32 → Int32 → TM → Prop} (E : Ev p s m args meth c D tc ad RL cL_isCanal 16) (hr : meth.sig.returnType = (some .boolean)) (hk612 : ∀ (x1 : Int32) (x2 : Int32) (x3 : Int32) (x4 : Int32) (x5 : Int32) (x6 : Int32) (x7 : Int32) (x8 : Int32) (x9 : Int32) (x10 : Int32) (x11 : Int32) (M : TM) , k612 x1 x2 x3 x4 x5 x6 x7 x8 x9 x10 x11 M → Wa p l e (rmD 5) s m args below meth c 0 0 (MQ below (va_Qi (fun r M' => (r = 0 ∨ r = 1) ∧ K r M') (EndW D tc ad) (A0 ad s.heap.size)) args s 0 0 (A0 ad s.heap.size)) D tc ad 16 M 612 [(0, .ref (ad 0)), (1, .int x1), (2, .int x2), (3, .int x3), (4, .int x4), (5, .int x5), (6, .int x6), (7, .int x7), (8, .int x8), (9, .int x9), (10, .int x10), (11, .int x11)] []) : ∀ (x1 : Int32) (x2 : Int32) (x3 : Int32) (x4 : Int32) (x5 : Int32) (x6 : Int32) (x7 : Int32) (x8 : Int32) (x9 : Int32) (x10 : Int32) (x11 : Int32) (z0 : Int32) (M : TM) , f_L_isCanal_L697  K k612 x1 x2 x3 x4 x5 x6 x7 x8 x9 x10 x11 z0 M → Wa p l e (rmD 5) s m args below meth c 0 0 (MQ below (va_Qi (fun r M' => (r = 0 ∨ r = 1) ∧ K r M') (EndW D tc ad) (A0 ad s.heap.size)) args s 0 0 (A0 ad s.heap.size)) D tc ad 16 M 697 [(0, .ref (ad 0)), (1, .int x1), (2, .int x2), (3, .int x3), (4, .int x4), (5, .int x5), (6, .int x6), (7, .int x7), (8, .int x8), (9, .int x9), (10, .int x10), (11, .int x11)] [.int z0] := by
  intro x1 x2 x3 x4 x5 x6 x7 x8 x9 x10 x11 z0 M  h
  unfold f_L_isCanal_L697 at h
  refine ra_istore (L' := [(12, _), (0, _), (1, _), (2, _), (3, _), (4, _), (5, _), (6, _), (7, _), (8, _), (9, _), (10, _), (11, _)]) E dL_isCanal_697 (by decide) rfl ?_
  refine ra_iload E dL_isCanal_699 12 rfl ?_
  refine ra_aload_n E dL_isCanal_701 rfl 1 rfl ?_
  refine ra_callIV (rest := [_]) E (c_X12_minute _ _ h) (lq_X12 _) cv_X12_minute ml_L_39 (by decide) (lm (by decide)) (fun R => ⟨_, cel_0 tc ad R⟩) rfl rfl rfl (Nat.le_of_ble_eq_true rfl) ⟨Nat.le_of_ble_eq_true rfl, Nat.le_of_ble_eq_true rfl⟩ ⟨Nat.zero_le _, Nat.zero_le _⟩ dL_isCanal_702 (fun r62 M61 h => ?_)
  refine ra_aload_n E dL_isCanal_705 rfl 1 rfl ?_
  refine ra_callIV (rest := [_, _]) E (c_X12_orderCount _ _ h) (lq_X12 _) cv_X12_orderCount ml_L_33 (by decide) (lm (by decide)) (fun R => ⟨_, cel_0 tc ad R⟩) rfl rfl rfl (Nat.le_of_ble_eq_true rfl) ⟨Nat.le_of_ble_eq_true rfl, Nat.le_of_ble_eq_true rfl⟩ ⟨Nat.zero_le _, Nat.zero_le _⟩ dL_isCanal_706 (fun r64 M63 h => ?_)
  obtain ⟨g65, h⟩ := h
  refine ra_irem E dL_isCanal_709 g65 ?_
  refine ra_icmp_ne (tgt := 722) E dL_isCanal_710 (by decide) (fun q66 => ?_) (fun q66 => ?_)
  · replace h := h.1 q66
    refine ra_aload_n E dL_isCanal_722 rfl 1 rfl ?_
    refine ra_iload E dL_isCanal_723 12 rfl ?_
    refine ra_callIV (rest := []) E (c_X12_isEaten _ _ _ h) (lq_X12 _) cv_X12_isEaten ml_L_90 (by decide) (lm (by decide)) (fun R => ⟨_, cel_0 tc ad R⟩) rfl rfl rfl (Nat.le_of_ble_eq_true rfl) ⟨Nat.le_of_ble_eq_true rfl, Nat.le_of_ble_eq_true rfl⟩ ⟨Nat.zero_le _, Nat.zero_le _⟩ dL_isCanal_725 (fun r68 M67 h => ?_)
    obtain ⟨b69, h⟩ := h
    exact ra_sub (L' := [(0, _), (1, _), (2, _), (3, _), (4, _), (5, _), (6, _), (7, _), (8, _), (9, _), (10, _), (11, _), (12, _)]) [1, 2, 3, 4, 5, 6, 7, 8, 9, 10, 11, 12, 0] rfl (l_L_isCanal_L728 E hr hk612 _ _ _ _ _ _ _ _ _ _ _ _ _ _ h)
  · replace h := h.2 q66
    refine ra_aload_n E dL_isCanal_713 rfl 1 rfl ?_
    refine ra_iload E dL_isCanal_714 12 rfl ?_
    refine ra_callIV (rest := []) E (c_X12_willBeEaten _ _ _ h) (lq_X12 _) cv_X12_willBeEaten ml_L_132 (by decide) (lm (by decide)) (fun R => ⟨_, cel_0 tc ad R⟩) rfl rfl rfl (Nat.le_of_ble_eq_true rfl) ⟨Nat.le_of_ble_eq_true rfl, Nat.le_of_ble_eq_true rfl⟩ ⟨Nat.zero_le _, Nat.zero_le _⟩ dL_isCanal_716 (fun r138 M137 h => ?_)
    obtain ⟨b139, h⟩ := h
    refine ra_goto (tgt := 728) E dL_isCanal_719 (by decide) ?_
    exact ra_sub (L' := [(0, _), (1, _), (2, _), (3, _), (4, _), (5, _), (6, _), (7, _), (8, _), (9, _), (10, _), (11, _), (12, _)]) [1, 2, 3, 4, 5, 6, 7, 8, 9, 10, 11, 12, 0] rfl (l_L_isCanal_L728 E hr hk612 _ _ _ _ _ _ _ _ _ _ _ _ _ _ h)
def f_L_isCanal_L680  (K : Int32 → TM → Prop) (k612 : Int32 → Int32 → Int32 → Int32 → Int32 → Int32 → Int32 → Int32 → Int32 → Int32 → Int32 → TM → Prop) (x1 : Int32) (x2 : Int32) (x3 : Int32) (x4 : Int32) (x5 : Int32) (x6 : Int32) (x7 : Int32) (x8 : Int32) (x10 : Int32) (x11 : Int32) (z0 : Int32) (z1 : Int32) (M : TM) : Prop := f_X12_bargeOf x11 M (fun r59 M58 => ((r59 < 0 → f_L_isCanal_L697 K k612 x1 x2 x3 x4 x5 x6 x7 x8 (z1 + z0) x10 x11 (0 : Int32) M58) ∧ (¬ r59 < 0 → f_L_isCanal_L697 K k612 x1 x2 x3 x4 x5 x6 x7 x8 (z1 + z0) x10 x11 (1 : Int32) M58)))
set_option maxRecDepth 100000 in
set_option maxHeartbeats 4000000 in
theorem l_L_isCanal_L680 {p : Program} {l : Launch} {e : Env} {s : State} {m : MethodId} {args : Array Value} {below : List Frame} {meth : Method} {c : Code} {D : va_G} {tc : Nat → ClassId} {ad : Nat → Nat}  {K : Int32 → TM → Prop} {k612 : Int32 → Int32 → Int32 → Int32 → Int32 → Int32 → Int32 → Int32 → Int32 → Int32 → Int32 → TM → Prop} (E : Ev p s m args meth c D tc ad RL cL_isCanal 16) (hr : meth.sig.returnType = (some .boolean)) (hk612 : ∀ (x1 : Int32) (x2 : Int32) (x3 : Int32) (x4 : Int32) (x5 : Int32) (x6 : Int32) (x7 : Int32) (x8 : Int32) (x9 : Int32) (x10 : Int32) (x11 : Int32) (M : TM) , k612 x1 x2 x3 x4 x5 x6 x7 x8 x9 x10 x11 M → Wa p l e (rmD 5) s m args below meth c 0 0 (MQ below (va_Qi (fun r M' => (r = 0 ∨ r = 1) ∧ K r M') (EndW D tc ad) (A0 ad s.heap.size)) args s 0 0 (A0 ad s.heap.size)) D tc ad 16 M 612 [(0, .ref (ad 0)), (1, .int x1), (2, .int x2), (3, .int x3), (4, .int x4), (5, .int x5), (6, .int x6), (7, .int x7), (8, .int x8), (9, .int x9), (10, .int x10), (11, .int x11)] []) : ∀ (x1 : Int32) (x2 : Int32) (x3 : Int32) (x4 : Int32) (x5 : Int32) (x6 : Int32) (x7 : Int32) (x8 : Int32) (x10 : Int32) (x11 : Int32) (z0 : Int32) (z1 : Int32) (M : TM) , f_L_isCanal_L680  K k612 x1 x2 x3 x4 x5 x6 x7 x8 x10 x11 z0 z1 M → Wa p l e (rmD 5) s m args below meth c 0 0 (MQ below (va_Qi (fun r M' => (r = 0 ∨ r = 1) ∧ K r M') (EndW D tc ad) (A0 ad s.heap.size)) args s 0 0 (A0 ad s.heap.size)) D tc ad 16 M 680 [(0, .ref (ad 0)), (1, .int x1), (2, .int x2), (3, .int x3), (4, .int x4), (5, .int x5), (6, .int x6), (7, .int x7), (8, .int x8), (10, .int x10), (11, .int x11)] [.int z0, .int z1] := by
  intro x1 x2 x3 x4 x5 x6 x7 x8 x10 x11 z0 z1 M  h
  unfold f_L_isCanal_L680 at h
  refine ra_iadd E dL_isCanal_680 ?_
  refine ra_istore (L' := [(9, _), (0, _), (1, _), (2, _), (3, _), (4, _), (5, _), (6, _), (7, _), (8, _), (10, _), (11, _)]) E dL_isCanal_681 (by decide) rfl ?_
  refine ra_aload_n E dL_isCanal_683 rfl 1 rfl ?_
  refine ra_iload E dL_isCanal_684 11 rfl ?_
  refine ra_callIV (rest := []) E (c_X12_bargeOf _ _ _ h) (lq_X12 _) cv_X12_bargeOf ml_L_77 (by decide) (lm (by decide)) (fun R => ⟨_, cel_0 tc ad R⟩) rfl rfl rfl (Nat.le_of_ble_eq_true rfl) ⟨Nat.le_of_ble_eq_true rfl, Nat.le_of_ble_eq_true rfl⟩ ⟨Nat.zero_le _, Nat.zero_le _⟩ dL_isCanal_686 (fun r59 M58 h => ?_)
  refine ra_if_lt (tgt := 696) E dL_isCanal_689 (by decide) (fun q60 => ?_) (fun q60 => ?_)
  · replace h := h.1 q60
    refine ra_iconst E dL_isCanal_696 ki_0 ?_
    exact ra_sub (L' := [(0, _), (1, _), (2, _), (3, _), (4, _), (5, _), (6, _), (7, _), (8, _), (9, _), (10, _), (11, _)]) [1, 2, 3, 4, 5, 6, 7, 8, 9, 0, 10, 11] rfl (l_L_isCanal_L697 E hr hk612 _ _ _ _ _ _ _ _ _ _ _ _ _ h)
  · replace h := h.2 q60
    refine ra_iconst E dL_isCanal_692 ki_1 ?_
    refine ra_goto (tgt := 697) E dL_isCanal_693 (by decide) ?_
    exact ra_sub (L' := [(0, _), (1, _), (2, _), (3, _), (4, _), (5, _), (6, _), (7, _), (8, _), (9, _), (10, _), (11, _)]) [1, 2, 3, 4, 5, 6, 7, 8, 9, 0, 10, 11] rfl (l_L_isCanal_L697 E hr hk612 _ _ _ _ _ _ _ _ _ _ _ _ _ h)
def f_L_isCanal_L656  (K : Int32 → TM → Prop) (k612 : Int32 → Int32 → Int32 → Int32 → Int32 → Int32 → Int32 → Int32 → Int32 → Int32 → Int32 → TM → Prop) (x1 : Int32) (x2 : Int32) (x3 : Int32) (x4 : Int32) (x5 : Int32) (x6 : Int32) (x8 : Int32) (x9 : Int32) (x10 : Int32) (x11 : Int32) (z0 : Int32) (z1 : Int32) (M : TM) : Prop := f_X12_isEaten x11 M (fun r55 M54 => ((r55 = 0 → f_L_isCanal_L680 K k612 x1 x2 x3 x4 x5 x6 (z1 + z0) x8 x10 x11 (0 : Int32) x9 M54) ∧ (¬ r55 = 0 → f_X12_bowls x11 M54 (fun r141 M140 => f_L_isCanal_L680 K k612 x1 x2 x3 x4 x5 x6 (z1 + z0) x8 x10 x11 r141 x9 M140))))
set_option maxRecDepth 100000 in
set_option maxHeartbeats 4000000 in
theorem l_L_isCanal_L656 {p : Program} {l : Launch} {e : Env} {s : State} {m : MethodId} {args : Array Value} {below : List Frame} {meth : Method} {c : Code} {D : va_G} {tc : Nat → ClassId} {ad : Nat → Nat}  {K : Int32 → TM → Prop} {k612 : Int32 → Int32 → Int32 → Int32 → Int32 → Int32 → Int32 → Int32 → Int32 → Int32 → Int32 → TM → Prop} (E : Ev p s m args meth c D tc ad RL cL_isCanal 16) (hr : meth.sig.returnType = (some .boolean)) (hk612 : ∀ (x1 : Int32) (x2 : Int32) (x3 : Int32) (x4 : Int32) (x5 : Int32) (x6 : Int32) (x7 : Int32) (x8 : Int32) (x9 : Int32) (x10 : Int32) (x11 : Int32) (M : TM) , k612 x1 x2 x3 x4 x5 x6 x7 x8 x9 x10 x11 M → Wa p l e (rmD 5) s m args below meth c 0 0 (MQ below (va_Qi (fun r M' => (r = 0 ∨ r = 1) ∧ K r M') (EndW D tc ad) (A0 ad s.heap.size)) args s 0 0 (A0 ad s.heap.size)) D tc ad 16 M 612 [(0, .ref (ad 0)), (1, .int x1), (2, .int x2), (3, .int x3), (4, .int x4), (5, .int x5), (6, .int x6), (7, .int x7), (8, .int x8), (9, .int x9), (10, .int x10), (11, .int x11)] []) : ∀ (x1 : Int32) (x2 : Int32) (x3 : Int32) (x4 : Int32) (x5 : Int32) (x6 : Int32) (x8 : Int32) (x9 : Int32) (x10 : Int32) (x11 : Int32) (z0 : Int32) (z1 : Int32) (M : TM) , f_L_isCanal_L656  K k612 x1 x2 x3 x4 x5 x6 x8 x9 x10 x11 z0 z1 M → Wa p l e (rmD 5) s m args below meth c 0 0 (MQ below (va_Qi (fun r M' => (r = 0 ∨ r = 1) ∧ K r M') (EndW D tc ad) (A0 ad s.heap.size)) args s 0 0 (A0 ad s.heap.size)) D tc ad 16 M 656 [(0, .ref (ad 0)), (1, .int x1), (2, .int x2), (3, .int x3), (4, .int x4), (5, .int x5), (6, .int x6), (8, .int x8), (9, .int x9), (10, .int x10), (11, .int x11)] [.int z0, .int z1] := by
  intro x1 x2 x3 x4 x5 x6 x8 x9 x10 x11 z0 z1 M  h
  unfold f_L_isCanal_L656 at h
  refine ra_iadd E dL_isCanal_656 ?_
  refine ra_istore (L' := [(7, _), (0, _), (1, _), (2, _), (3, _), (4, _), (5, _), (6, _), (8, _), (9, _), (10, _), (11, _)]) E dL_isCanal_657 (by decide) rfl ?_
  refine ra_iload E dL_isCanal_659 9 rfl ?_
  refine ra_aload_n E dL_isCanal_661 rfl 1 rfl ?_
  refine ra_iload E dL_isCanal_662 11 rfl ?_
  refine ra_callIV (rest := [_]) E (c_X12_isEaten _ _ _ h) (lq_X12 _) cv_X12_isEaten ml_L_90 (by decide) (lm (by decide)) (fun R => ⟨_, cel_0 tc ad R⟩) rfl rfl rfl (Nat.le_of_ble_eq_true rfl) ⟨Nat.le_of_ble_eq_true rfl, Nat.le_of_ble_eq_true rfl⟩ ⟨Nat.zero_le _, Nat.zero_le _⟩ dL_isCanal_664 (fun r55 M54 h => ?_)
  obtain ⟨b56, h⟩ := h
  refine ra_if_eq (tgt := 679) E dL_isCanal_667 (by decide) (fun q57 => ?_) (fun q57 => ?_)
  · replace h := h.1 q57
    refine ra_iconst E dL_isCanal_679 ki_0 ?_
    exact ra_sub (L' := [(0, _), (1, _), (2, _), (3, _), (4, _), (5, _), (6, _), (7, _), (8, _), (10, _), (11, _)]) [1, 2, 3, 4, 5, 6, 7, 0, 8, 10, 11] rfl (l_L_isCanal_L680 E hr hk612 _ _ _ _ _ _ _ _ _ _ _ _ _ h)
  · replace h := h.2 q57
    refine ra_aload_n E dL_isCanal_670 rfl 1 rfl ?_
    refine ra_iload E dL_isCanal_671 11 rfl ?_
    refine ra_callIV (rest := [_]) E (c_X12_bowls _ _ _ h) (lq_X12 _) cv_X12_bowls ml_L_114 (by decide) (lm (by decide)) (fun R => ⟨_, cel_0 tc ad R⟩) rfl rfl rfl (Nat.le_of_ble_eq_true rfl) ⟨Nat.le_of_ble_eq_true rfl, Nat.le_of_ble_eq_true rfl⟩ ⟨Nat.zero_le _, Nat.zero_le _⟩ dL_isCanal_673 (fun r141 M140 h => ?_)
    refine ra_goto (tgt := 680) E dL_isCanal_676 (by decide) ?_
    exact ra_sub (L' := [(0, _), (1, _), (2, _), (3, _), (4, _), (5, _), (6, _), (7, _), (8, _), (10, _), (11, _)]) [1, 2, 3, 4, 5, 6, 7, 0, 8, 10, 11] rfl (l_L_isCanal_L680 E hr hk612 _ _ _ _ _ _ _ _ _ _ _ _ _ h)
def f_L_isCanal_L637  (K : Int32 → TM → Prop) (k612 : Int32 → Int32 → Int32 → Int32 → Int32 → Int32 → Int32 → Int32 → Int32 → Int32 → Int32 → TM → Prop) (x1 : Int32) (x2 : Int32) (x3 : Int32) (x4 : Int32) (x5 : Int32) (x7 : Int32) (x8 : Int32) (x9 : Int32) (x10 : Int32) (x11 : Int32) (z0 : Int32) (z1 : Int32) (M : TM) : Prop := f_X12_isEaten x11 M (fun r51 M50 => ((r51 = 0 → f_L_isCanal_L656 K k612 x1 x2 x3 x4 x5 (z1 + z0) x8 x9 x10 x11 (0 : Int32) x7 M50) ∧ (¬ r51 = 0 → f_L_isCanal_L656 K k612 x1 x2 x3 x4 x5 (z1 + z0) x8 x9 x10 x11 (1 : Int32) x7 M50)))
set_option maxRecDepth 100000 in
set_option maxHeartbeats 4000000 in
theorem l_L_isCanal_L637 {p : Program} {l : Launch} {e : Env} {s : State} {m : MethodId} {args : Array Value} {below : List Frame} {meth : Method} {c : Code} {D : va_G} {tc : Nat → ClassId} {ad : Nat → Nat}  {K : Int32 → TM → Prop} {k612 : Int32 → Int32 → Int32 → Int32 → Int32 → Int32 → Int32 → Int32 → Int32 → Int32 → Int32 → TM → Prop} (E : Ev p s m args meth c D tc ad RL cL_isCanal 16) (hr : meth.sig.returnType = (some .boolean)) (hk612 : ∀ (x1 : Int32) (x2 : Int32) (x3 : Int32) (x4 : Int32) (x5 : Int32) (x6 : Int32) (x7 : Int32) (x8 : Int32) (x9 : Int32) (x10 : Int32) (x11 : Int32) (M : TM) , k612 x1 x2 x3 x4 x5 x6 x7 x8 x9 x10 x11 M → Wa p l e (rmD 5) s m args below meth c 0 0 (MQ below (va_Qi (fun r M' => (r = 0 ∨ r = 1) ∧ K r M') (EndW D tc ad) (A0 ad s.heap.size)) args s 0 0 (A0 ad s.heap.size)) D tc ad 16 M 612 [(0, .ref (ad 0)), (1, .int x1), (2, .int x2), (3, .int x3), (4, .int x4), (5, .int x5), (6, .int x6), (7, .int x7), (8, .int x8), (9, .int x9), (10, .int x10), (11, .int x11)] []) : ∀ (x1 : Int32) (x2 : Int32) (x3 : Int32) (x4 : Int32) (x5 : Int32) (x7 : Int32) (x8 : Int32) (x9 : Int32) (x10 : Int32) (x11 : Int32) (z0 : Int32) (z1 : Int32) (M : TM) , f_L_isCanal_L637  K k612 x1 x2 x3 x4 x5 x7 x8 x9 x10 x11 z0 z1 M → Wa p l e (rmD 5) s m args below meth c 0 0 (MQ below (va_Qi (fun r M' => (r = 0 ∨ r = 1) ∧ K r M') (EndW D tc ad) (A0 ad s.heap.size)) args s 0 0 (A0 ad s.heap.size)) D tc ad 16 M 637 [(0, .ref (ad 0)), (1, .int x1), (2, .int x2), (3, .int x3), (4, .int x4), (5, .int x5), (7, .int x7), (8, .int x8), (9, .int x9), (10, .int x10), (11, .int x11)] [.int z0, .int z1] := by
  intro x1 x2 x3 x4 x5 x7 x8 x9 x10 x11 z0 z1 M  h
  unfold f_L_isCanal_L637 at h
  refine ra_iadd E dL_isCanal_637 ?_
  refine ra_istore (L' := [(6, _), (0, _), (1, _), (2, _), (3, _), (4, _), (5, _), (7, _), (8, _), (9, _), (10, _), (11, _)]) E dL_isCanal_638 (by decide) rfl ?_
  refine ra_iload E dL_isCanal_640 7 rfl ?_
  refine ra_aload_n E dL_isCanal_642 rfl 1 rfl ?_
  refine ra_iload E dL_isCanal_643 11 rfl ?_
  refine ra_callIV (rest := [_]) E (c_X12_isEaten _ _ _ h) (lq_X12 _) cv_X12_isEaten ml_L_90 (by decide) (lm (by decide)) (fun R => ⟨_, cel_0 tc ad R⟩) rfl rfl rfl (Nat.le_of_ble_eq_true rfl) ⟨Nat.le_of_ble_eq_true rfl, Nat.le_of_ble_eq_true rfl⟩ ⟨Nat.zero_le _, Nat.zero_le _⟩ dL_isCanal_645 (fun r51 M50 h => ?_)
  obtain ⟨b52, h⟩ := h
  refine ra_if_eq (tgt := 655) E dL_isCanal_648 (by decide) (fun q53 => ?_) (fun q53 => ?_)
  · replace h := h.1 q53
    refine ra_iconst E dL_isCanal_655 ki_0 ?_
    exact ra_sub (L' := [(0, _), (1, _), (2, _), (3, _), (4, _), (5, _), (6, _), (8, _), (9, _), (10, _), (11, _)]) [1, 2, 3, 4, 5, 6, 0, 8, 9, 10, 11] rfl (l_L_isCanal_L656 E hr hk612 _ _ _ _ _ _ _ _ _ _ _ _ _ h)
  · replace h := h.2 q53
    refine ra_iconst E dL_isCanal_651 ki_1 ?_
    refine ra_goto (tgt := 656) E dL_isCanal_652 (by decide) ?_
    exact ra_sub (L' := [(0, _), (1, _), (2, _), (3, _), (4, _), (5, _), (6, _), (8, _), (9, _), (10, _), (11, _)]) [1, 2, 3, 4, 5, 6, 0, 8, 9, 10, 11] rfl (l_L_isCanal_L656 E hr hk612 _ _ _ _ _ _ _ _ _ _ _ _ _ h)
def f_L_isCanal_L612  (K : Int32 → TM → Prop) : Nat → Int32 → Int32 → Int32 → Int32 → Int32 → Int32 → Int32 → Int32 → Int32 → Int32 → Int32 → TM → Prop
  | 0, _, _, _, _, _, _, _, _, _, _, _, _ => False
  | n + 1, x1, x2, x3, x4, x5, x6, x7, x8, x9, x10, x11, M => f_X12_orderCount M (fun r13 M12 => ((r13 ≤ x11 → f_X12_bargeCount M12 (fun r16 M15 => ((¬ (x1 + x2) = r16 → K (0 : Int32) M15) ∧ ((x1 + x2) = r16 → ((¬ x3 = ((x6 + x4) + x5) → K (0 : Int32) M15) ∧ (x3 = ((x6 + x4) + x5) → f_X12_expiredOrders M15 (fun r20 M19 => ((¬ x8 = r20 → K (0 : Int32) M19) ∧ (x8 = r20 → f_X12_eatenBowls M19 (fun r23 M22 => ((¬ x9 = r23 → K (0 : Int32) M22) ∧ (x9 = r23 → f_X12_orderCount M22 (fun r26 M25 => ((¬ ((x3 + x7) + x8) = r26 → K (0 : Int32) M25) ∧ (((x3 + x7) + x8) = r26 → f_X12_eatenShare M25 (fun r29 M28 => ((¬ (x7 + x8) = 0 → vf_n32 (FP.fdiv (FP.i2f x7) (FP.i2f (x7 + x8))) ∧ f_L_isCanal_L1031 K (FP.fdiv (FP.i2f x7) (FP.i2f (x7 + x8))) r29 M28) ∧ ((x7 + x8) = 0 → f_L_isCanal_L1031 K (FP.fconst0) r29 M28)))))))))))))))))) ∧ (¬ r13 ≤ x11 → f_X12_isOpen x11 M12 (fun r47 M46 => ((r47 = 0 → f_L_isCanal_L637 K (f_L_isCanal_L612 K n) x1 x2 x3 x4 x5 x7 x8 x9 x10 x11 (0 : Int32) x6 M46) ∧ (¬ r47 = 0 → f_L_isCanal_L637 K (f_L_isCanal_L612 K n) x1 x2 x3 x4 x5 x7 x8 x9 x10 x11 (1 : Int32) x6 M46))))))
set_option maxRecDepth 100000 in
set_option maxHeartbeats 4000000 in
theorem l_L_isCanal_L612 {p : Program} {l : Launch} {e : Env} {s : State} {m : MethodId} {args : Array Value} {below : List Frame} {meth : Method} {c : Code} {D : va_G} {tc : Nat → ClassId} {ad : Nat → Nat}  {K : Int32 → TM → Prop} (E : Ev p s m args meth c D tc ad RL cL_isCanal 16) (hr : meth.sig.returnType = (some .boolean)) : ∀ (n : Nat) (x1 : Int32) (x2 : Int32) (x3 : Int32) (x4 : Int32) (x5 : Int32) (x6 : Int32) (x7 : Int32) (x8 : Int32) (x9 : Int32) (x10 : Int32) (x11 : Int32) (M : TM) , f_L_isCanal_L612  K n x1 x2 x3 x4 x5 x6 x7 x8 x9 x10 x11 M → Wa p l e (rmD 5) s m args below meth c 0 0 (MQ below (va_Qi (fun r M' => (r = 0 ∨ r = 1) ∧ K r M') (EndW D tc ad) (A0 ad s.heap.size)) args s 0 0 (A0 ad s.heap.size)) D tc ad 16 M 612 [(0, .ref (ad 0)), (1, .int x1), (2, .int x2), (3, .int x3), (4, .int x4), (5, .int x5), (6, .int x6), (7, .int x7), (8, .int x8), (9, .int x9), (10, .int x10), (11, .int x11)] [] := by
  intro n
  induction n with
  | zero => intro x1 x2 x3 x4 x5 x6 x7 x8 x9 x10 x11 M  h; exact h.elim
  | succ n ih =>
    intro x1 x2 x3 x4 x5 x6 x7 x8 x9 x10 x11 M  h
    unfold f_L_isCanal_L612 at h
    refine ra_iload E dL_isCanal_612 11 rfl ?_
    refine ra_aload_n E dL_isCanal_614 rfl 0 rfl ?_
    refine ra_callIV (rest := [_]) E (c_X12_orderCount _ _ h) (lq_X12 _) cv_X12_orderCount ml_L_33 (by decide) (lm (by decide)) (fun R => ⟨_, cel_0 tc ad R⟩) rfl rfl rfl (Nat.le_of_ble_eq_true rfl) ⟨Nat.le_of_ble_eq_true rfl, Nat.le_of_ble_eq_true rfl⟩ ⟨Nat.zero_le _, Nat.zero_le _⟩ dL_isCanal_615 (fun r13 M12 h => ?_)
    refine ra_icmp_ge (tgt := 951) E dL_isCanal_618 (by decide) (fun q14 => ?_) (fun q14 => ?_)
    · replace h := h.1 q14
      refine ra_iload_n E dL_isCanal_951 rfl 1 rfl ?_
      refine ra_iload_n E dL_isCanal_952 rfl 2 rfl ?_
      refine ra_iadd E dL_isCanal_953 ?_
      refine ra_aload_n E dL_isCanal_954 rfl 0 rfl ?_
      refine ra_callIV (rest := [_]) E (c_X12_bargeCount _ _ h) (lq_X12 _) cv_X12_bargeCount ml_L_30 (by decide) (lm (by decide)) (fun R => ⟨_, cel_0 tc ad R⟩) rfl rfl rfl (Nat.le_of_ble_eq_true rfl) ⟨Nat.le_of_ble_eq_true rfl, Nat.le_of_ble_eq_true rfl⟩ ⟨Nat.zero_le _, Nat.zero_le _⟩ dL_isCanal_955 (fun r16 M15 h => ?_)
      refine ra_icmp_ne (tgt := 1073) E dL_isCanal_958 (by decide) (fun q17 => ?_) (fun q17 => ?_)
      · replace h := h.1 q17
        refine ra_iconst E dL_isCanal_1073 ki_0 ?_
        exact ra_zret E hr rfl dL_isCanal_1074 ⟨Or.inl rfl, h⟩
      · replace h := h.2 q17
        refine ra_iload_n E dL_isCanal_961 rfl 3 rfl ?_
        refine ra_iload E dL_isCanal_962 6 rfl ?_
        refine ra_iload E dL_isCanal_964 4 rfl ?_
        refine ra_iadd E dL_isCanal_966 ?_
        refine ra_iload E dL_isCanal_967 5 rfl ?_
        refine ra_iadd E dL_isCanal_969 ?_
        refine ra_icmp_ne (tgt := 1073) E dL_isCanal_970 (by decide) (fun q18 => ?_) (fun q18 => ?_)
        · replace h := h.1 q18
          refine ra_iconst E dL_isCanal_1073 ki_0 ?_
          exact ra_zret E hr rfl dL_isCanal_1074 ⟨Or.inl rfl, h⟩
        · replace h := h.2 q18
          refine ra_iload E dL_isCanal_973 8 rfl ?_
          refine ra_aload_n E dL_isCanal_975 rfl 0 rfl ?_
          refine ra_callIV (rest := [_]) E (c_X12_expiredOrders _ _ h) (lq_X12 _) cv_X12_expiredOrders ml_L_48 (by decide) (lm (by decide)) (fun R => ⟨_, cel_0 tc ad R⟩) rfl rfl rfl (Nat.le_of_ble_eq_true rfl) ⟨Nat.le_of_ble_eq_true rfl, Nat.le_of_ble_eq_true rfl⟩ ⟨Nat.zero_le _, Nat.zero_le _⟩ dL_isCanal_976 (fun r20 M19 h => ?_)
          refine ra_icmp_ne (tgt := 1073) E dL_isCanal_979 (by decide) (fun q21 => ?_) (fun q21 => ?_)
          · replace h := h.1 q21
            refine ra_iconst E dL_isCanal_1073 ki_0 ?_
            exact ra_zret E hr rfl dL_isCanal_1074 ⟨Or.inl rfl, h⟩
          · replace h := h.2 q21
            refine ra_iload E dL_isCanal_982 9 rfl ?_
            refine ra_aload_n E dL_isCanal_984 rfl 0 rfl ?_
            refine ra_callIV (rest := [_]) E (c_X12_eatenBowls _ _ h) (lq_X12 _) cv_X12_eatenBowls ml_L_45 (by decide) (lm (by decide)) (fun R => ⟨_, cel_0 tc ad R⟩) rfl rfl rfl (Nat.le_of_ble_eq_true rfl) ⟨Nat.le_of_ble_eq_true rfl, Nat.le_of_ble_eq_true rfl⟩ ⟨Nat.zero_le _, Nat.zero_le _⟩ dL_isCanal_985 (fun r23 M22 h => ?_)
            refine ra_icmp_ne (tgt := 1073) E dL_isCanal_988 (by decide) (fun q24 => ?_) (fun q24 => ?_)
            · replace h := h.1 q24
              refine ra_iconst E dL_isCanal_1073 ki_0 ?_
              exact ra_zret E hr rfl dL_isCanal_1074 ⟨Or.inl rfl, h⟩
            · replace h := h.2 q24
              refine ra_iload_n E dL_isCanal_991 rfl 3 rfl ?_
              refine ra_iload E dL_isCanal_992 7 rfl ?_
              refine ra_iadd E dL_isCanal_994 ?_
              refine ra_iload E dL_isCanal_995 8 rfl ?_
              refine ra_iadd E dL_isCanal_997 ?_
              refine ra_aload_n E dL_isCanal_998 rfl 0 rfl ?_
              refine ra_callIV (rest := [_]) E (c_X12_orderCount _ _ h) (lq_X12 _) cv_X12_orderCount ml_L_33 (by decide) (lm (by decide)) (fun R => ⟨_, cel_0 tc ad R⟩) rfl rfl rfl (Nat.le_of_ble_eq_true rfl) ⟨Nat.le_of_ble_eq_true rfl, Nat.le_of_ble_eq_true rfl⟩ ⟨Nat.zero_le _, Nat.zero_le _⟩ dL_isCanal_999 (fun r26 M25 h => ?_)
              refine ra_icmp_ne (tgt := 1073) E dL_isCanal_1002 (by decide) (fun q27 => ?_) (fun q27 => ?_)
              · replace h := h.1 q27
                refine ra_iconst E dL_isCanal_1073 ki_0 ?_
                exact ra_zret E hr rfl dL_isCanal_1074 ⟨Or.inl rfl, h⟩
              · replace h := h.2 q27
                refine ra_aload_n E dL_isCanal_1005 rfl 0 rfl ?_
                refine ra_callFV (rest := []) E (c_X12_eatenShare _ _ h) (lq_X12 _) cv_X12_eatenShare ml_L_141 (by decide) (lm (by decide)) (fun R => ⟨_, cel_0 tc ad R⟩) rfl rfl rfl (Nat.le_of_ble_eq_true rfl) ⟨Nat.le_of_ble_eq_true rfl, Nat.le_of_ble_eq_true rfl⟩ ⟨Nat.zero_le _, Nat.zero_le _⟩ dL_isCanal_1006 (fun r29 M28 h => ?_)
                refine ra_iload E dL_isCanal_1009 7 rfl ?_
                refine ra_iload E dL_isCanal_1011 8 rfl ?_
                refine ra_iadd E dL_isCanal_1013 ?_
                refine ra_if_ne (tgt := 1021) E dL_isCanal_1014 (by decide) (fun q30 => ?_) (fun q30 => ?_)
                · replace h := h.1 q30
                  refine ra_iload E dL_isCanal_1021 7 rfl ?_
                  refine ra_i2f E dL_isCanal_1023 ?_
                  refine ra_iload E dL_isCanal_1024 7 rfl ?_
                  refine ra_iload E dL_isCanal_1026 8 rfl ?_
                  refine ra_iadd E dL_isCanal_1028 ?_
                  refine ra_i2f E dL_isCanal_1029 ?_
                  obtain ⟨g31, h⟩ := h
                  refine ra_fdiv E dL_isCanal_1030 g31 ?_
                  exact ra_sub (L' := [(0, _)]) [0] rfl (l_L_isCanal_L1031 E hr _ _ _ h)
                · replace h := h.2 q30
                  refine ra_fconst0 E dL_isCanal_1017 ?_
                  refine ra_goto (tgt := 1031) E dL_isCanal_1018 (by decide) ?_
                  exact ra_sub (L' := [(0, _)]) [0] rfl (l_L_isCanal_L1031 E hr _ _ _ h)
    · replace h := h.2 q14
      refine ra_iload E dL_isCanal_621 6 rfl ?_
      refine ra_aload_n E dL_isCanal_623 rfl 0 rfl ?_
      refine ra_iload E dL_isCanal_624 11 rfl ?_
      refine ra_callIV (rest := [_]) E (c_X12_isOpen _ _ _ h) (lq_X12 _) cv_X12_isOpen ml_L_83 (by decide) (lm (by decide)) (fun R => ⟨_, cel_0 tc ad R⟩) rfl rfl rfl (Nat.le_of_ble_eq_true rfl) ⟨Nat.le_of_ble_eq_true rfl, Nat.le_of_ble_eq_true rfl⟩ ⟨Nat.zero_le _, Nat.zero_le _⟩ dL_isCanal_626 (fun r47 M46 h => ?_)
      obtain ⟨b48, h⟩ := h
      refine ra_if_eq (tgt := 636) E dL_isCanal_629 (by decide) (fun q49 => ?_) (fun q49 => ?_)
      · replace h := h.1 q49
        refine ra_iconst E dL_isCanal_636 ki_0 ?_
        exact ra_sub (L' := [(0, _), (1, _), (2, _), (3, _), (4, _), (5, _), (7, _), (8, _), (9, _), (10, _), (11, _)]) [0, 1, 2, 3, 4, 5, 7, 8, 9, 10, 11] rfl (l_L_isCanal_L637 E hr ih _ _ _ _ _ _ _ _ _ _ _ _ _ h)
      · replace h := h.2 q49
        refine ra_iconst E dL_isCanal_632 ki_1 ?_
        refine ra_goto (tgt := 637) E dL_isCanal_633 (by decide) ?_
        exact ra_sub (L' := [(0, _), (1, _), (2, _), (3, _), (4, _), (5, _), (7, _), (8, _), (9, _), (10, _), (11, _)]) [0, 1, 2, 3, 4, 5, 7, 8, 9, 10, 11] rfl (l_L_isCanal_L637 E hr ih _ _ _ _ _ _ _ _ _ _ _ _ _ h)
def f_L_isCanal_L561  (K : Int32 → TM → Prop) (k259 : Int32 → Int32 → Int32 → Int32 → Int32 → Int32 → TM → Prop) (k274 : Int32 → Int32 → Int32 → Int32 → Int32 → Int32 → Int32 → Int32 → TM → Prop) (k497 : Int32 → Int32 → Int32 → Int32 → Int32 → Int32 → Int32 → TM → Prop) (x1 : Int32) (x2 : Int32) (x3 : Int32) (x4 : Int32) (x5 : Int32) (x6 : Int32) (x9 : Int32) (x10 : Int32) (M : TM) : Prop := ((¬ x10 = 0 → k497 x1 x2 x3 x4 x5 x6 (x9 + 1) M) ∧ (x10 = 0 → f_X12_targetOf x6 M (fun r192 M191 => ((¬ r192 = x9 → k497 x1 x2 x3 x4 x5 x6 (x9 + 1) M191) ∧ (r192 = x9 → K (0 : Int32) M191)))))
set_option maxRecDepth 100000 in
set_option maxHeartbeats 4000000 in
theorem l_L_isCanal_L561 {p : Program} {l : Launch} {e : Env} {s : State} {m : MethodId} {args : Array Value} {below : List Frame} {meth : Method} {c : Code} {D : va_G} {tc : Nat → ClassId} {ad : Nat → Nat}  {K : Int32 → TM → Prop} {k259 : Int32 → Int32 → Int32 → Int32 → Int32 → Int32 → TM → Prop} {k274 : Int32 → Int32 → Int32 → Int32 → Int32 → Int32 → Int32 → Int32 → TM → Prop} {k497 : Int32 → Int32 → Int32 → Int32 → Int32 → Int32 → Int32 → TM → Prop} (E : Ev p s m args meth c D tc ad RL cL_isCanal 16) (hr : meth.sig.returnType = (some .boolean)) (hk259 : ∀ (x1 : Int32) (x2 : Int32) (x3 : Int32) (x4 : Int32) (x5 : Int32) (x6 : Int32) (M : TM) , k259 x1 x2 x3 x4 x5 x6 M → Wa p l e (rmD 5) s m args below meth c 0 0 (MQ below (va_Qi (fun r M' => (r = 0 ∨ r = 1) ∧ K r M') (EndW D tc ad) (A0 ad s.heap.size)) args s 0 0 (A0 ad s.heap.size)) D tc ad 16 M 259 [(0, .ref (ad 0)), (1, .int x1), (2, .int x2), (3, .int x3), (4, .int x4), (5, .int x5), (6, .int x6)] []) (hk274 : ∀ (x1 : Int32) (x2 : Int32) (x3 : Int32) (x4 : Int32) (x5 : Int32) (x6 : Int32) (x7 : Int32) (x8 : Int32) (M : TM) , k274 x1 x2 x3 x4 x5 x6 x7 x8 M → Wa p l e (rmD 5) s m args below meth c 0 0 (MQ below (va_Qi (fun r M' => (r = 0 ∨ r = 1) ∧ K r M') (EndW D tc ad) (A0 ad s.heap.size)) args s 0 0 (A0 ad s.heap.size)) D tc ad 16 M 274 [(0, .ref (ad 0)), (1, .int x1), (2, .int x2), (3, .int x3), (4, .int x4), (5, .int x5), (6, .int x6), (7, .int x7), (8, .int x8)] []) (hk497 : ∀ (x1 : Int32) (x2 : Int32) (x3 : Int32) (x4 : Int32) (x5 : Int32) (x6 : Int32) (x9 : Int32) (M : TM) , k497 x1 x2 x3 x4 x5 x6 x9 M → Wa p l e (rmD 5) s m args below meth c 0 0 (MQ below (va_Qi (fun r M' => (r = 0 ∨ r = 1) ∧ K r M') (EndW D tc ad) (A0 ad s.heap.size)) args s 0 0 (A0 ad s.heap.size)) D tc ad 16 M 497 [(0, .ref (ad 0)), (1, .int x1), (2, .int x2), (3, .int x3), (4, .int x4), (5, .int x5), (6, .int x6), (9, .int x9)] []) : ∀ (x1 : Int32) (x2 : Int32) (x3 : Int32) (x4 : Int32) (x5 : Int32) (x6 : Int32) (x9 : Int32) (x10 : Int32) (M : TM) , f_L_isCanal_L561  K k259 k274 k497 x1 x2 x3 x4 x5 x6 x9 x10 M → Wa p l e (rmD 5) s m args below meth c 0 0 (MQ below (va_Qi (fun r M' => (r = 0 ∨ r = 1) ∧ K r M') (EndW D tc ad) (A0 ad s.heap.size)) args s 0 0 (A0 ad s.heap.size)) D tc ad 16 M 561 [(0, .ref (ad 0)), (1, .int x1), (2, .int x2), (3, .int x3), (4, .int x4), (5, .int x5), (6, .int x6), (9, .int x9), (10, .int x10)] [] := by
  intro x1 x2 x3 x4 x5 x6 x9 x10 M  h
  unfold f_L_isCanal_L561 at h
  refine ra_iload E dL_isCanal_561 8 rfl ?_
  refine ra_if_ne (tgt := 579) E dL_isCanal_563 (by decide) (fun q190 => ?_) (fun q190 => ?_)
  · replace h := h.1 q190
    refine ra_iinc1 (L' := [(9, _), (0, _), (1, _), (2, _), (3, _), (4, _), (5, _), (6, _), (10, _)]) E dL_isCanal_579 7 rfl (by decide) rfl ?_
    refine ra_goto (tgt := 497) E dL_isCanal_582 (by decide) ?_
    exact ra_sub (L' := [(0, _), (1, _), (2, _), (3, _), (4, _), (5, _), (6, _), (9, _)]) [1, 2, 3, 4, 5, 6, 7, 0] rfl (hk497 _ _ _ _ _ _ _ _ h)
  · replace h := h.2 q190
    refine ra_aload_n E dL_isCanal_566 rfl 0 rfl ?_
    refine ra_iload E dL_isCanal_567 6 rfl ?_
    refine ra_callIV (rest := []) E (c_X12_targetOf _ _ _ h) (lq_X12 _) cv_X12_targetOf ml_L_55 (by decide) (lm (by decide)) (fun R => ⟨_, cel_0 tc ad R⟩) rfl rfl rfl (Nat.le_of_ble_eq_true rfl) ⟨Nat.le_of_ble_eq_true rfl, Nat.le_of_ble_eq_true rfl⟩ ⟨Nat.zero_le _, Nat.zero_le _⟩ dL_isCanal_569 (fun r192 M191 h => ?_)
    refine ra_iload E dL_isCanal_572 7 rfl ?_
    refine ra_icmp_ne (tgt := 579) E dL_isCanal_574 (by decide) (fun q193 => ?_) (fun q193 => ?_)
    · replace h := h.1 q193
      refine ra_iinc1 (L' := [(9, _), (0, _), (1, _), (2, _), (3, _), (4, _), (5, _), (6, _), (10, _)]) E dL_isCanal_579 7 rfl (by decide) rfl ?_
      refine ra_goto (tgt := 497) E dL_isCanal_582 (by decide) ?_
      exact ra_sub (L' := [(0, _), (1, _), (2, _), (3, _), (4, _), (5, _), (6, _), (9, _)]) [1, 2, 3, 4, 5, 6, 7, 0] rfl (hk497 _ _ _ _ _ _ _ _ h)
    · replace h := h.2 q193
      refine ra_iconst E dL_isCanal_577 ki_0 ?_
      exact ra_zret E hr rfl dL_isCanal_578 ⟨Or.inl rfl, h⟩
def f_L_isCanal_L541  (K : Int32 → TM → Prop) (k259 : Int32 → Int32 → Int32 → Int32 → Int32 → Int32 → TM → Prop) (k274 : Int32 → Int32 → Int32 → Int32 → Int32 → Int32 → Int32 → Int32 → TM → Prop) (k497 : Int32 → Int32 → Int32 → Int32 → Int32 → Int32 → Int32 → TM → Prop) (x1 : Int32) (x2 : Int32) (x3 : Int32) (x4 : Int32) (x5 : Int32) (x6 : Int32) (x9 : Int32) (x10 : Int32) (z0 : Int32) (z1 : Int32) (M : TM) : Prop := ((¬ z1 = z0 → K (0 : Int32) M) ∧ (z1 = z0 → ((¬ x10 = (2 : Int32) → f_L_isCanal_L561 K k259 k274 k497 x1 x2 x3 x4 x5 x6 x9 x10 M) ∧ (x10 = (2 : Int32) → f_X12_targetOf x6 M (fun r195 M194 => ((¬ r195 = x9 → K (0 : Int32) M194) ∧ (r195 = x9 → f_L_isCanal_L561 K k259 k274 k497 x1 x2 x3 x4 x5 x6 x9 x10 M194)))))))
set_option maxRecDepth 100000 in
set_option maxHeartbeats 4000000 in
theorem l_L_isCanal_L541 {p : Program} {l : Launch} {e : Env} {s : State} {m : MethodId} {args : Array Value} {below : List Frame} {meth : Method} {c : Code} {D : va_G} {tc : Nat → ClassId} {ad : Nat → Nat}  {K : Int32 → TM → Prop} {k259 : Int32 → Int32 → Int32 → Int32 → Int32 → Int32 → TM → Prop} {k274 : Int32 → Int32 → Int32 → Int32 → Int32 → Int32 → Int32 → Int32 → TM → Prop} {k497 : Int32 → Int32 → Int32 → Int32 → Int32 → Int32 → Int32 → TM → Prop} (E : Ev p s m args meth c D tc ad RL cL_isCanal 16) (hr : meth.sig.returnType = (some .boolean)) (hk259 : ∀ (x1 : Int32) (x2 : Int32) (x3 : Int32) (x4 : Int32) (x5 : Int32) (x6 : Int32) (M : TM) , k259 x1 x2 x3 x4 x5 x6 M → Wa p l e (rmD 5) s m args below meth c 0 0 (MQ below (va_Qi (fun r M' => (r = 0 ∨ r = 1) ∧ K r M') (EndW D tc ad) (A0 ad s.heap.size)) args s 0 0 (A0 ad s.heap.size)) D tc ad 16 M 259 [(0, .ref (ad 0)), (1, .int x1), (2, .int x2), (3, .int x3), (4, .int x4), (5, .int x5), (6, .int x6)] []) (hk274 : ∀ (x1 : Int32) (x2 : Int32) (x3 : Int32) (x4 : Int32) (x5 : Int32) (x6 : Int32) (x7 : Int32) (x8 : Int32) (M : TM) , k274 x1 x2 x3 x4 x5 x6 x7 x8 M → Wa p l e (rmD 5) s m args below meth c 0 0 (MQ below (va_Qi (fun r M' => (r = 0 ∨ r = 1) ∧ K r M') (EndW D tc ad) (A0 ad s.heap.size)) args s 0 0 (A0 ad s.heap.size)) D tc ad 16 M 274 [(0, .ref (ad 0)), (1, .int x1), (2, .int x2), (3, .int x3), (4, .int x4), (5, .int x5), (6, .int x6), (7, .int x7), (8, .int x8)] []) (hk497 : ∀ (x1 : Int32) (x2 : Int32) (x3 : Int32) (x4 : Int32) (x5 : Int32) (x6 : Int32) (x9 : Int32) (M : TM) , k497 x1 x2 x3 x4 x5 x6 x9 M → Wa p l e (rmD 5) s m args below meth c 0 0 (MQ below (va_Qi (fun r M' => (r = 0 ∨ r = 1) ∧ K r M') (EndW D tc ad) (A0 ad s.heap.size)) args s 0 0 (A0 ad s.heap.size)) D tc ad 16 M 497 [(0, .ref (ad 0)), (1, .int x1), (2, .int x2), (3, .int x3), (4, .int x4), (5, .int x5), (6, .int x6), (9, .int x9)] []) : ∀ (x1 : Int32) (x2 : Int32) (x3 : Int32) (x4 : Int32) (x5 : Int32) (x6 : Int32) (x9 : Int32) (x10 : Int32) (z0 : Int32) (z1 : Int32) (M : TM) , f_L_isCanal_L541  K k259 k274 k497 x1 x2 x3 x4 x5 x6 x9 x10 z0 z1 M → Wa p l e (rmD 5) s m args below meth c 0 0 (MQ below (va_Qi (fun r M' => (r = 0 ∨ r = 1) ∧ K r M') (EndW D tc ad) (A0 ad s.heap.size)) args s 0 0 (A0 ad s.heap.size)) D tc ad 16 M 541 [(0, .ref (ad 0)), (1, .int x1), (2, .int x2), (3, .int x3), (4, .int x4), (5, .int x5), (6, .int x6), (9, .int x9), (10, .int x10)] [.int z0, .int z1] := by
  intro x1 x2 x3 x4 x5 x6 x9 x10 z0 z1 M  h
  unfold f_L_isCanal_L541 at h
  refine ra_icmp_ne (tgt := 577) E dL_isCanal_541 (by decide) (fun q188 => ?_) (fun q188 => ?_)
  · replace h := h.1 q188
    refine ra_iconst E dL_isCanal_577 ki_0 ?_
    exact ra_zret E hr rfl dL_isCanal_578 ⟨Or.inl rfl, h⟩
  · replace h := h.2 q188
    refine ra_iload E dL_isCanal_544 8 rfl ?_
    refine ra_iconst E dL_isCanal_546 ki_2 ?_
    refine ra_icmp_ne (tgt := 561) E dL_isCanal_547 (by decide) (fun q189 => ?_) (fun q189 => ?_)
    · replace h := h.1 q189
      exact ra_sub (L' := [(0, _), (1, _), (2, _), (3, _), (4, _), (5, _), (6, _), (9, _), (10, _)]) [0, 1, 2, 3, 4, 5, 6, 7, 8] rfl (l_L_isCanal_L561 E hr hk259 hk274 hk497 _ _ _ _ _ _ _ _ _ h)
    · replace h := h.2 q189
      refine ra_aload_n E dL_isCanal_550 rfl 0 rfl ?_
      refine ra_iload E dL_isCanal_551 6 rfl ?_
      refine ra_callIV (rest := []) E (c_X12_targetOf _ _ _ h) (lq_X12 _) cv_X12_targetOf ml_L_55 (by decide) (lm (by decide)) (fun R => ⟨_, cel_0 tc ad R⟩) rfl rfl rfl (Nat.le_of_ble_eq_true rfl) ⟨Nat.le_of_ble_eq_true rfl, Nat.le_of_ble_eq_true rfl⟩ ⟨Nat.zero_le _, Nat.zero_le _⟩ dL_isCanal_553 (fun r195 M194 h => ?_)
      refine ra_iload E dL_isCanal_556 7 rfl ?_
      refine ra_icmp_ne (tgt := 577) E dL_isCanal_558 (by decide) (fun q196 => ?_) (fun q196 => ?_)
      · replace h := h.1 q196
        refine ra_iconst E dL_isCanal_577 ki_0 ?_
        exact ra_zret E hr rfl dL_isCanal_578 ⟨Or.inl rfl, h⟩
      · replace h := h.2 q196
        exact ra_sub (L' := [(0, _), (1, _), (2, _), (3, _), (4, _), (5, _), (6, _), (9, _), (10, _)]) [0, 1, 2, 3, 4, 5, 6, 7, 8] rfl (l_L_isCanal_L561 E hr hk259 hk274 hk497 _ _ _ _ _ _ _ _ _ h)
def f_L_isCanal_L527  (K : Int32 → TM → Prop) (k259 : Int32 → Int32 → Int32 → Int32 → Int32 → Int32 → TM → Prop) (k274 : Int32 → Int32 → Int32 → Int32 → Int32 → Int32 → Int32 → Int32 → TM → Prop) (k497 : Int32 → Int32 → Int32 → Int32 → Int32 → Int32 → Int32 → TM → Prop) (x1 : Int32) (x2 : Int32) (x3 : Int32) (x4 : Int32) (x5 : Int32) (x6 : Int32) (x9 : Int32) (x10 : Int32) (z0 : Int32) (M : TM) : Prop := f_X12_timeInLock x6 M (fun r186 M185 => ((r186 ≤ 0 → f_L_isCanal_L541 K k259 k274 k497 x1 x2 x3 x4 x5 x6 x9 x10 (0 : Int32) z0 M185) ∧ (¬ r186 ≤ 0 → f_L_isCanal_L541 K k259 k274 k497 x1 x2 x3 x4 x5 x6 x9 x10 (1 : Int32) z0 M185)))
set_option maxRecDepth 100000 in
set_option maxHeartbeats 4000000 in
theorem l_L_isCanal_L527 {p : Program} {l : Launch} {e : Env} {s : State} {m : MethodId} {args : Array Value} {below : List Frame} {meth : Method} {c : Code} {D : va_G} {tc : Nat → ClassId} {ad : Nat → Nat}  {K : Int32 → TM → Prop} {k259 : Int32 → Int32 → Int32 → Int32 → Int32 → Int32 → TM → Prop} {k274 : Int32 → Int32 → Int32 → Int32 → Int32 → Int32 → Int32 → Int32 → TM → Prop} {k497 : Int32 → Int32 → Int32 → Int32 → Int32 → Int32 → Int32 → TM → Prop} (E : Ev p s m args meth c D tc ad RL cL_isCanal 16) (hr : meth.sig.returnType = (some .boolean)) (hk259 : ∀ (x1 : Int32) (x2 : Int32) (x3 : Int32) (x4 : Int32) (x5 : Int32) (x6 : Int32) (M : TM) , k259 x1 x2 x3 x4 x5 x6 M → Wa p l e (rmD 5) s m args below meth c 0 0 (MQ below (va_Qi (fun r M' => (r = 0 ∨ r = 1) ∧ K r M') (EndW D tc ad) (A0 ad s.heap.size)) args s 0 0 (A0 ad s.heap.size)) D tc ad 16 M 259 [(0, .ref (ad 0)), (1, .int x1), (2, .int x2), (3, .int x3), (4, .int x4), (5, .int x5), (6, .int x6)] []) (hk274 : ∀ (x1 : Int32) (x2 : Int32) (x3 : Int32) (x4 : Int32) (x5 : Int32) (x6 : Int32) (x7 : Int32) (x8 : Int32) (M : TM) , k274 x1 x2 x3 x4 x5 x6 x7 x8 M → Wa p l e (rmD 5) s m args below meth c 0 0 (MQ below (va_Qi (fun r M' => (r = 0 ∨ r = 1) ∧ K r M') (EndW D tc ad) (A0 ad s.heap.size)) args s 0 0 (A0 ad s.heap.size)) D tc ad 16 M 274 [(0, .ref (ad 0)), (1, .int x1), (2, .int x2), (3, .int x3), (4, .int x4), (5, .int x5), (6, .int x6), (7, .int x7), (8, .int x8)] []) (hk497 : ∀ (x1 : Int32) (x2 : Int32) (x3 : Int32) (x4 : Int32) (x5 : Int32) (x6 : Int32) (x9 : Int32) (M : TM) , k497 x1 x2 x3 x4 x5 x6 x9 M → Wa p l e (rmD 5) s m args below meth c 0 0 (MQ below (va_Qi (fun r M' => (r = 0 ∨ r = 1) ∧ K r M') (EndW D tc ad) (A0 ad s.heap.size)) args s 0 0 (A0 ad s.heap.size)) D tc ad 16 M 497 [(0, .ref (ad 0)), (1, .int x1), (2, .int x2), (3, .int x3), (4, .int x4), (5, .int x5), (6, .int x6), (9, .int x9)] []) : ∀ (x1 : Int32) (x2 : Int32) (x3 : Int32) (x4 : Int32) (x5 : Int32) (x6 : Int32) (x9 : Int32) (x10 : Int32) (z0 : Int32) (M : TM) , f_L_isCanal_L527  K k259 k274 k497 x1 x2 x3 x4 x5 x6 x9 x10 z0 M → Wa p l e (rmD 5) s m args below meth c 0 0 (MQ below (va_Qi (fun r M' => (r = 0 ∨ r = 1) ∧ K r M') (EndW D tc ad) (A0 ad s.heap.size)) args s 0 0 (A0 ad s.heap.size)) D tc ad 16 M 527 [(0, .ref (ad 0)), (1, .int x1), (2, .int x2), (3, .int x3), (4, .int x4), (5, .int x5), (6, .int x6), (9, .int x9), (10, .int x10)] [.int z0] := by
  intro x1 x2 x3 x4 x5 x6 x9 x10 z0 M  h
  unfold f_L_isCanal_L527 at h
  refine ra_aload_n E dL_isCanal_527 rfl 0 rfl ?_
  refine ra_iload E dL_isCanal_528 6 rfl ?_
  refine ra_callIV (rest := [_]) E (c_X12_timeInLock _ _ _ h) (lq_X12 _) cv_X12_timeInLock ml_L_58 (by decide) (lm (by decide)) (fun R => ⟨_, cel_0 tc ad R⟩) rfl rfl rfl (Nat.le_of_ble_eq_true rfl) ⟨Nat.le_of_ble_eq_true rfl, Nat.le_of_ble_eq_true rfl⟩ ⟨Nat.zero_le _, Nat.zero_le _⟩ dL_isCanal_530 (fun r186 M185 h => ?_)
  refine ra_if_le (tgt := 540) E dL_isCanal_533 (by decide) (fun q187 => ?_) (fun q187 => ?_)
  · replace h := h.1 q187
    refine ra_iconst E dL_isCanal_540 ki_0 ?_
    exact ra_sub (L' := [(0, _), (1, _), (2, _), (3, _), (4, _), (5, _), (6, _), (9, _), (10, _)]) [0, 1, 2, 3, 4, 5, 6, 7, 8] rfl (l_L_isCanal_L541 E hr hk259 hk274 hk497 _ _ _ _ _ _ _ _ _ _ _ h)
  · replace h := h.2 q187
    refine ra_iconst E dL_isCanal_536 ki_1 ?_
    refine ra_goto (tgt := 541) E dL_isCanal_537 (by decide) ?_
    exact ra_sub (L' := [(0, _), (1, _), (2, _), (3, _), (4, _), (5, _), (6, _), (9, _), (10, _)]) [0, 1, 2, 3, 4, 5, 6, 7, 8] rfl (l_L_isCanal_L541 E hr hk259 hk274 hk497 _ _ _ _ _ _ _ _ _ _ _ h)
def f_L_isCanal_L497  (K : Int32 → TM → Prop) (k259 : Int32 → Int32 → Int32 → Int32 → Int32 → Int32 → TM → Prop) (k274 : Int32 → Int32 → Int32 → Int32 → Int32 → Int32 → Int32 → Int32 → TM → Prop) : Nat → Int32 → Int32 → Int32 → Int32 → Int32 → Int32 → Int32 → TM → Prop
  | 0, _, _, _, _, _, _, _, _ => False
  | n + 1, x1, x2, x3, x4, x5, x6, x9, M => f_X12_placeCount M (fun r180 M179 => ((r180 ≤ x9 → k259 x1 x2 x3 x4 x5 (x6 + 1) M179) ∧ (¬ r180 ≤ x9 → f_X12_sailObstacle x6 x9 M179 (fun r183 M182 => ((¬ r183 = (1 : Int32) → f_L_isCanal_L527 K k259 k274 (f_L_isCanal_L497 K k259 k274 n) x1 x2 x3 x4 x5 x6 x9 r183 (0 : Int32) M182) ∧ (r183 = (1 : Int32) → f_L_isCanal_L527 K k259 k274 (f_L_isCanal_L497 K k259 k274 n) x1 x2 x3 x4 x5 x6 x9 r183 (1 : Int32) M182))))))
set_option maxRecDepth 100000 in
set_option maxHeartbeats 4000000 in
theorem l_L_isCanal_L497 {p : Program} {l : Launch} {e : Env} {s : State} {m : MethodId} {args : Array Value} {below : List Frame} {meth : Method} {c : Code} {D : va_G} {tc : Nat → ClassId} {ad : Nat → Nat}  {K : Int32 → TM → Prop} {k259 : Int32 → Int32 → Int32 → Int32 → Int32 → Int32 → TM → Prop} {k274 : Int32 → Int32 → Int32 → Int32 → Int32 → Int32 → Int32 → Int32 → TM → Prop} (E : Ev p s m args meth c D tc ad RL cL_isCanal 16) (hr : meth.sig.returnType = (some .boolean)) (hk259 : ∀ (x1 : Int32) (x2 : Int32) (x3 : Int32) (x4 : Int32) (x5 : Int32) (x6 : Int32) (M : TM) , k259 x1 x2 x3 x4 x5 x6 M → Wa p l e (rmD 5) s m args below meth c 0 0 (MQ below (va_Qi (fun r M' => (r = 0 ∨ r = 1) ∧ K r M') (EndW D tc ad) (A0 ad s.heap.size)) args s 0 0 (A0 ad s.heap.size)) D tc ad 16 M 259 [(0, .ref (ad 0)), (1, .int x1), (2, .int x2), (3, .int x3), (4, .int x4), (5, .int x5), (6, .int x6)] []) (hk274 : ∀ (x1 : Int32) (x2 : Int32) (x3 : Int32) (x4 : Int32) (x5 : Int32) (x6 : Int32) (x7 : Int32) (x8 : Int32) (M : TM) , k274 x1 x2 x3 x4 x5 x6 x7 x8 M → Wa p l e (rmD 5) s m args below meth c 0 0 (MQ below (va_Qi (fun r M' => (r = 0 ∨ r = 1) ∧ K r M') (EndW D tc ad) (A0 ad s.heap.size)) args s 0 0 (A0 ad s.heap.size)) D tc ad 16 M 274 [(0, .ref (ad 0)), (1, .int x1), (2, .int x2), (3, .int x3), (4, .int x4), (5, .int x5), (6, .int x6), (7, .int x7), (8, .int x8)] []) : ∀ (n : Nat) (x1 : Int32) (x2 : Int32) (x3 : Int32) (x4 : Int32) (x5 : Int32) (x6 : Int32) (x9 : Int32) (M : TM) , f_L_isCanal_L497  K k259 k274 n x1 x2 x3 x4 x5 x6 x9 M → Wa p l e (rmD 5) s m args below meth c 0 0 (MQ below (va_Qi (fun r M' => (r = 0 ∨ r = 1) ∧ K r M') (EndW D tc ad) (A0 ad s.heap.size)) args s 0 0 (A0 ad s.heap.size)) D tc ad 16 M 497 [(0, .ref (ad 0)), (1, .int x1), (2, .int x2), (3, .int x3), (4, .int x4), (5, .int x5), (6, .int x6), (9, .int x9)] [] := by
  intro n
  induction n with
  | zero => intro x1 x2 x3 x4 x5 x6 x9 M  h; exact h.elim
  | succ n ih =>
    intro x1 x2 x3 x4 x5 x6 x9 M  h
    unfold f_L_isCanal_L497 at h
    refine ra_iload E dL_isCanal_497 7 rfl ?_
    refine ra_aload_n E dL_isCanal_499 rfl 0 rfl ?_
    refine ra_callIV (rest := [_]) E (c_X12_placeCount _ _ h) (lq_X12 _) cv_X12_placeCount ml_L_36 (by decide) (lm (by decide)) (fun R => ⟨_, cel_0 tc ad R⟩) rfl rfl rfl (Nat.le_of_ble_eq_true rfl) ⟨Nat.le_of_ble_eq_true rfl, Nat.le_of_ble_eq_true rfl⟩ ⟨Nat.zero_le _, Nat.zero_le _⟩ dL_isCanal_500 (fun r180 M179 h => ?_)
    refine ra_icmp_ge (tgt := 585) E dL_isCanal_503 (by decide) (fun q181 => ?_) (fun q181 => ?_)
    · replace h := h.1 q181
      refine ra_iinc1 (L' := [(6, _), (0, _), (1, _), (2, _), (3, _), (4, _), (5, _), (9, _)]) E dL_isCanal_585 6 rfl (by decide) rfl ?_
      refine ra_goto (tgt := 259) E dL_isCanal_588 (by decide) ?_
      exact ra_sub (L' := [(0, _), (1, _), (2, _), (3, _), (4, _), (5, _), (6, _)]) [1, 2, 3, 4, 5, 6, 0] rfl (hk259 _ _ _ _ _ _ _ h)
    · replace h := h.2 q181
      refine ra_aload_n E dL_isCanal_506 rfl 0 rfl ?_
      refine ra_iload E dL_isCanal_507 6 rfl ?_
      refine ra_iload E dL_isCanal_509 7 rfl ?_
      refine ra_callIV (rest := []) E (c_X12_sailObstacle _ _ _ _ h) (lq_X12 _) cv_X12_sailObstacle ml_L_126 (by decide) (lm (by decide)) (fun R => ⟨_, cel_0 tc ad R⟩) rfl rfl rfl (Nat.le_of_ble_eq_true rfl) ⟨Nat.le_of_ble_eq_true rfl, Nat.le_of_ble_eq_true rfl⟩ ⟨Nat.zero_le _, Nat.zero_le _⟩ dL_isCanal_511 (fun r183 M182 h => ?_)
      refine ra_istore (L' := [(10, _), (0, _), (1, _), (2, _), (3, _), (4, _), (5, _), (6, _), (9, _)]) E dL_isCanal_514 (by decide) rfl ?_
      refine ra_iload E dL_isCanal_516 0 rfl ?_
      refine ra_iconst E dL_isCanal_518 ki_1 ?_
      refine ra_icmp_ne (tgt := 526) E dL_isCanal_519 (by decide) (fun q184 => ?_) (fun q184 => ?_)
      · replace h := h.1 q184
        refine ra_iconst E dL_isCanal_526 ki_0 ?_
        exact ra_sub (L' := [(0, _), (1, _), (2, _), (3, _), (4, _), (5, _), (6, _), (9, _), (10, _)]) [1, 2, 3, 4, 5, 6, 7, 8, 0] rfl (l_L_isCanal_L527 E hr hk259 hk274 ih _ _ _ _ _ _ _ _ _ _ h)
      · replace h := h.2 q184
        refine ra_iconst E dL_isCanal_522 ki_1 ?_
        refine ra_goto (tgt := 527) E dL_isCanal_523 (by decide) ?_
        exact ra_sub (L' := [(0, _), (1, _), (2, _), (3, _), (4, _), (5, _), (6, _), (9, _), (10, _)]) [1, 2, 3, 4, 5, 6, 7, 8, 0] rfl (l_L_isCanal_L527 E hr hk259 hk274 ih _ _ _ _ _ _ _ _ _ _ h)
def f_L_isCanal_L473  (K : Int32 → TM → Prop) (k259 : Int32 → Int32 → Int32 → Int32 → Int32 → Int32 → TM → Prop) (k274 : Int32 → Int32 → Int32 → Int32 → Int32 → Int32 → Int32 → Int32 → TM → Prop) (x1 : Int32) (x2 : Int32) (x3 : Int32) (x4 : Int32) (x5 : Int32) (x6 : Int32) (x8 : Int32) (z0 : Int32) (M : TM) : Prop := ((¬ z0 = x8 → K (0 : Int32) M) ∧ (z0 = x8 → f_X12_timeInLock x6 M (fun r177 M176 => ((r177 ≤ 0 → ∃ n497, f_L_isCanal_L497 K k259 k274 n497 x1 x2 x3 x4 x5 x6 (0 : Int32) M176) ∧ (¬ r177 ≤ 0 → ((x8 = 0 → ∃ n497, f_L_isCanal_L497 K k259 k274 n497 x1 x2 x3 x4 x5 x6 (0 : Int32) M176) ∧ (¬ x8 = 0 → K (0 : Int32) M176)))))))
set_option maxRecDepth 100000 in
set_option maxHeartbeats 4000000 in
theorem l_L_isCanal_L473 {p : Program} {l : Launch} {e : Env} {s : State} {m : MethodId} {args : Array Value} {below : List Frame} {meth : Method} {c : Code} {D : va_G} {tc : Nat → ClassId} {ad : Nat → Nat}  {K : Int32 → TM → Prop} {k259 : Int32 → Int32 → Int32 → Int32 → Int32 → Int32 → TM → Prop} {k274 : Int32 → Int32 → Int32 → Int32 → Int32 → Int32 → Int32 → Int32 → TM → Prop} (E : Ev p s m args meth c D tc ad RL cL_isCanal 16) (hr : meth.sig.returnType = (some .boolean)) (hk259 : ∀ (x1 : Int32) (x2 : Int32) (x3 : Int32) (x4 : Int32) (x5 : Int32) (x6 : Int32) (M : TM) , k259 x1 x2 x3 x4 x5 x6 M → Wa p l e (rmD 5) s m args below meth c 0 0 (MQ below (va_Qi (fun r M' => (r = 0 ∨ r = 1) ∧ K r M') (EndW D tc ad) (A0 ad s.heap.size)) args s 0 0 (A0 ad s.heap.size)) D tc ad 16 M 259 [(0, .ref (ad 0)), (1, .int x1), (2, .int x2), (3, .int x3), (4, .int x4), (5, .int x5), (6, .int x6)] []) (hk274 : ∀ (x1 : Int32) (x2 : Int32) (x3 : Int32) (x4 : Int32) (x5 : Int32) (x6 : Int32) (x7 : Int32) (x8 : Int32) (M : TM) , k274 x1 x2 x3 x4 x5 x6 x7 x8 M → Wa p l e (rmD 5) s m args below meth c 0 0 (MQ below (va_Qi (fun r M' => (r = 0 ∨ r = 1) ∧ K r M') (EndW D tc ad) (A0 ad s.heap.size)) args s 0 0 (A0 ad s.heap.size)) D tc ad 16 M 274 [(0, .ref (ad 0)), (1, .int x1), (2, .int x2), (3, .int x3), (4, .int x4), (5, .int x5), (6, .int x6), (7, .int x7), (8, .int x8)] []) : ∀ (x1 : Int32) (x2 : Int32) (x3 : Int32) (x4 : Int32) (x5 : Int32) (x6 : Int32) (x8 : Int32) (z0 : Int32) (M : TM) , f_L_isCanal_L473  K k259 k274 x1 x2 x3 x4 x5 x6 x8 z0 M → Wa p l e (rmD 5) s m args below meth c 0 0 (MQ below (va_Qi (fun r M' => (r = 0 ∨ r = 1) ∧ K r M') (EndW D tc ad) (A0 ad s.heap.size)) args s 0 0 (A0 ad s.heap.size)) D tc ad 16 M 473 [(0, .ref (ad 0)), (1, .int x1), (2, .int x2), (3, .int x3), (4, .int x4), (5, .int x5), (6, .int x6), (8, .int x8)] [.int z0] := by
  intro x1 x2 x3 x4 x5 x6 x8 z0 M  h
  unfold f_L_isCanal_L473 at h
  refine ra_iload E dL_isCanal_473 7 rfl ?_
  refine ra_icmp_ne (tgt := 492) E dL_isCanal_475 (by decide) (fun q175 => ?_) (fun q175 => ?_)
  · replace h := h.1 q175
    refine ra_iconst E dL_isCanal_492 ki_0 ?_
    exact ra_zret E hr rfl dL_isCanal_493 ⟨Or.inl rfl, h⟩
  · replace h := h.2 q175
    refine ra_aload_n E dL_isCanal_478 rfl 0 rfl ?_
    refine ra_iload E dL_isCanal_479 6 rfl ?_
    refine ra_callIV (rest := []) E (c_X12_timeInLock _ _ _ h) (lq_X12 _) cv_X12_timeInLock ml_L_58 (by decide) (lm (by decide)) (fun R => ⟨_, cel_0 tc ad R⟩) rfl rfl rfl (Nat.le_of_ble_eq_true rfl) ⟨Nat.le_of_ble_eq_true rfl, Nat.le_of_ble_eq_true rfl⟩ ⟨Nat.zero_le _, Nat.zero_le _⟩ dL_isCanal_481 (fun r177 M176 h => ?_)
    refine ra_if_le (tgt := 494) E dL_isCanal_484 (by decide) (fun q178 => ?_) (fun q178 => ?_)
    · replace h := h.1 q178
      refine ra_iconst E dL_isCanal_494 ki_0 ?_
      refine ra_istore (L' := [(9, _), (0, _), (1, _), (2, _), (3, _), (4, _), (5, _), (6, _), (8, _)]) E dL_isCanal_495 (by decide) rfl ?_
      obtain ⟨n197, h⟩ := h
      exact ra_sub (L' := [(0, _), (1, _), (2, _), (3, _), (4, _), (5, _), (6, _), (9, _)]) [1, 2, 3, 4, 5, 6, 7, 0] rfl (l_L_isCanal_L497 E hr hk259 hk274 n197 _ _ _ _ _ _ _ _ h)
    · replace h := h.2 q178
      refine ra_iload E dL_isCanal_487 7 rfl ?_
      refine ra_if_eq (tgt := 494) E dL_isCanal_489 (by decide) (fun q198 => ?_) (fun q198 => ?_)
      · replace h := h.1 q198
        refine ra_iconst E dL_isCanal_494 ki_0 ?_
        refine ra_istore (L' := [(9, _), (0, _), (1, _), (2, _), (3, _), (4, _), (5, _), (6, _), (8, _)]) E dL_isCanal_495 (by decide) rfl ?_
        obtain ⟨n199, h⟩ := h
        exact ra_sub (L' := [(0, _), (1, _), (2, _), (3, _), (4, _), (5, _), (6, _), (9, _)]) [1, 2, 3, 4, 5, 6, 7, 0] rfl (l_L_isCanal_L497 E hr hk259 hk274 n199 _ _ _ _ _ _ _ _ h)
      · replace h := h.2 q198
        refine ra_iconst E dL_isCanal_492 ki_0 ?_
        exact ra_zret E hr rfl dL_isCanal_493 ⟨Or.inl rfl, h⟩
def f_L_isCanal_L400  (K : Int32 → TM → Prop) (k259 : Int32 → Int32 → Int32 → Int32 → Int32 → Int32 → TM → Prop) (k274 : Int32 → Int32 → Int32 → Int32 → Int32 → Int32 → Int32 → Int32 → TM → Prop) (x1 : Int32) (x2 : Int32) (x3 : Int32) (x4 : Int32) (x5 : Int32) (x6 : Int32) (x7 : Int32) (z0 : Int32) (M : TM) : Prop := f_X12_flourNeeded x6 M (fun r156 M155 => ((x7 < r156 → K (0 : Int32) M155) ∧ (¬ x7 < r156 → f_X12_queueLength x6 M155 (fun r159 M158 => f_X12_readyCount x6 M158 (fun r161 M160 => (((4 : Int32) < (r159 + r161) → K (0 : Int32) M160) ∧ (¬ (4 : Int32) < (r159 + r161) → f_X12_flour x6 M160 (fun r164 M163 => ((r164 < 0 → K (0 : Int32) M163) ∧ (¬ r164 < 0 → f_X12_flour x6 M163 (fun r167 M166 => (((99 : Int32) < r167 → K (0 : Int32) M166) ∧ (¬ (99 : Int32) < r167 → f_X12_cleanPairs x6 M166 (fun r170 M169 => ((r170 < 0 → K (0 : Int32) M169) ∧ (¬ r170 < 0 → f_X12_minutesToTarget x6 M169 (fun r173 M172 => ((¬ r173 = 0 → f_L_isCanal_L473 K k259 k274 x1 x2 x3 x4 x5 x6 z0 (0 : Int32) M172) ∧ (r173 = 0 → f_L_isCanal_L473 K k259 k274 x1 x2 x3 x4 x5 x6 z0 (1 : Int32) M172)))))))))))))))))))
set_option maxRecDepth 100000 in
set_option maxHeartbeats 4000000 in
theorem l_L_isCanal_L400 {p : Program} {l : Launch} {e : Env} {s : State} {m : MethodId} {args : Array Value} {below : List Frame} {meth : Method} {c : Code} {D : va_G} {tc : Nat → ClassId} {ad : Nat → Nat}  {K : Int32 → TM → Prop} {k259 : Int32 → Int32 → Int32 → Int32 → Int32 → Int32 → TM → Prop} {k274 : Int32 → Int32 → Int32 → Int32 → Int32 → Int32 → Int32 → Int32 → TM → Prop} (E : Ev p s m args meth c D tc ad RL cL_isCanal 16) (hr : meth.sig.returnType = (some .boolean)) (hk259 : ∀ (x1 : Int32) (x2 : Int32) (x3 : Int32) (x4 : Int32) (x5 : Int32) (x6 : Int32) (M : TM) , k259 x1 x2 x3 x4 x5 x6 M → Wa p l e (rmD 5) s m args below meth c 0 0 (MQ below (va_Qi (fun r M' => (r = 0 ∨ r = 1) ∧ K r M') (EndW D tc ad) (A0 ad s.heap.size)) args s 0 0 (A0 ad s.heap.size)) D tc ad 16 M 259 [(0, .ref (ad 0)), (1, .int x1), (2, .int x2), (3, .int x3), (4, .int x4), (5, .int x5), (6, .int x6)] []) (hk274 : ∀ (x1 : Int32) (x2 : Int32) (x3 : Int32) (x4 : Int32) (x5 : Int32) (x6 : Int32) (x7 : Int32) (x8 : Int32) (M : TM) , k274 x1 x2 x3 x4 x5 x6 x7 x8 M → Wa p l e (rmD 5) s m args below meth c 0 0 (MQ below (va_Qi (fun r M' => (r = 0 ∨ r = 1) ∧ K r M') (EndW D tc ad) (A0 ad s.heap.size)) args s 0 0 (A0 ad s.heap.size)) D tc ad 16 M 274 [(0, .ref (ad 0)), (1, .int x1), (2, .int x2), (3, .int x3), (4, .int x4), (5, .int x5), (6, .int x6), (7, .int x7), (8, .int x8)] []) : ∀ (x1 : Int32) (x2 : Int32) (x3 : Int32) (x4 : Int32) (x5 : Int32) (x6 : Int32) (x7 : Int32) (z0 : Int32) (M : TM) , f_L_isCanal_L400  K k259 k274 x1 x2 x3 x4 x5 x6 x7 z0 M → Wa p l e (rmD 5) s m args below meth c 0 0 (MQ below (va_Qi (fun r M' => (r = 0 ∨ r = 1) ∧ K r M') (EndW D tc ad) (A0 ad s.heap.size)) args s 0 0 (A0 ad s.heap.size)) D tc ad 16 M 400 [(0, .ref (ad 0)), (1, .int x1), (2, .int x2), (3, .int x3), (4, .int x4), (5, .int x5), (6, .int x6), (7, .int x7)] [.int z0] := by
  intro x1 x2 x3 x4 x5 x6 x7 z0 M  h
  unfold f_L_isCanal_L400 at h
  refine ra_istore (L' := [(8, _), (0, _), (1, _), (2, _), (3, _), (4, _), (5, _), (6, _), (7, _)]) E dL_isCanal_400 (by decide) rfl ?_
  refine ra_aload_n E dL_isCanal_402 rfl 1 rfl ?_
  refine ra_iload E dL_isCanal_403 7 rfl ?_
  refine ra_callIV (rest := []) E (c_X12_flourNeeded _ _ _ h) (lq_X12 _) cv_X12_flourNeeded ml_L_120 (by decide) (lm (by decide)) (fun R => ⟨_, cel_0 tc ad R⟩) rfl rfl rfl (Nat.le_of_ble_eq_true rfl) ⟨Nat.le_of_ble_eq_true rfl, Nat.le_of_ble_eq_true rfl⟩ ⟨Nat.zero_le _, Nat.zero_le _⟩ dL_isCanal_405 (fun r156 M155 h => ?_)
  refine ra_iload E dL_isCanal_408 8 rfl ?_
  refine ra_icmp_gt (tgt := 492) E dL_isCanal_410 (by decide) (fun q157 => ?_) (fun q157 => ?_)
  · replace h := h.1 q157
    refine ra_iconst E dL_isCanal_492 ki_0 ?_
    exact ra_zret E hr rfl dL_isCanal_493 ⟨Or.inl rfl, h⟩
  · replace h := h.2 q157
    refine ra_aload_n E dL_isCanal_413 rfl 1 rfl ?_
    refine ra_iload E dL_isCanal_414 7 rfl ?_
    refine ra_callIV (rest := []) E (c_X12_queueLength _ _ _ h) (lq_X12 _) cv_X12_queueLength ml_L_111 (by decide) (lm (by decide)) (fun R => ⟨_, cel_0 tc ad R⟩) rfl rfl rfl (Nat.le_of_ble_eq_true rfl) ⟨Nat.le_of_ble_eq_true rfl, Nat.le_of_ble_eq_true rfl⟩ ⟨Nat.zero_le _, Nat.zero_le _⟩ dL_isCanal_416 (fun r159 M158 h => ?_)
    refine ra_aload_n E dL_isCanal_419 rfl 1 rfl ?_
    refine ra_iload E dL_isCanal_420 7 rfl ?_
    refine ra_callIV (rest := [_]) E (c_X12_readyCount _ _ _ h) (lq_X12 _) cv_X12_readyCount ml_L_117 (by decide) (lm (by decide)) (fun R => ⟨_, cel_0 tc ad R⟩) rfl rfl rfl (Nat.le_of_ble_eq_true rfl) ⟨Nat.le_of_ble_eq_true rfl, Nat.le_of_ble_eq_true rfl⟩ ⟨Nat.zero_le _, Nat.zero_le _⟩ dL_isCanal_422 (fun r161 M160 h => ?_)
    refine ra_iadd E dL_isCanal_425 ?_
    refine ra_iconst E dL_isCanal_426 ki_4 ?_
    refine ra_icmp_gt (tgt := 492) E dL_isCanal_427 (by decide) (fun q162 => ?_) (fun q162 => ?_)
    · replace h := h.1 q162
      refine ra_iconst E dL_isCanal_492 ki_0 ?_
      exact ra_zret E hr rfl dL_isCanal_493 ⟨Or.inl rfl, h⟩
    · replace h := h.2 q162
      refine ra_aload_n E dL_isCanal_430 rfl 1 rfl ?_
      refine ra_iload E dL_isCanal_431 7 rfl ?_
      refine ra_callIV (rest := []) E (c_X12_flour _ _ _ h) (lq_X12 _) cv_X12_flour ml_L_61 (by decide) (lm (by decide)) (fun R => ⟨_, cel_0 tc ad R⟩) rfl rfl rfl (Nat.le_of_ble_eq_true rfl) ⟨Nat.le_of_ble_eq_true rfl, Nat.le_of_ble_eq_true rfl⟩ ⟨Nat.zero_le _, Nat.zero_le _⟩ dL_isCanal_433 (fun r164 M163 h => ?_)
      refine ra_if_lt (tgt := 492) E dL_isCanal_436 (by decide) (fun q165 => ?_) (fun q165 => ?_)
      · replace h := h.1 q165
        refine ra_iconst E dL_isCanal_492 ki_0 ?_
        exact ra_zret E hr rfl dL_isCanal_493 ⟨Or.inl rfl, h⟩
      · replace h := h.2 q165
        refine ra_aload_n E dL_isCanal_439 rfl 1 rfl ?_
        refine ra_iload E dL_isCanal_440 7 rfl ?_
        refine ra_callIV (rest := []) E (c_X12_flour _ _ _ h) (lq_X12 _) cv_X12_flour ml_L_61 (by decide) (lm (by decide)) (fun R => ⟨_, cel_0 tc ad R⟩) rfl rfl rfl (Nat.le_of_ble_eq_true rfl) ⟨Nat.le_of_ble_eq_true rfl, Nat.le_of_ble_eq_true rfl⟩ ⟨Nat.zero_le _, Nat.zero_le _⟩ dL_isCanal_442 (fun r167 M166 h => ?_)
        refine ra_bipush E dL_isCanal_445 kb_99 ?_
        refine ra_icmp_gt (tgt := 492) E dL_isCanal_447 (by decide) (fun q168 => ?_) (fun q168 => ?_)
        · replace h := h.1 q168
          refine ra_iconst E dL_isCanal_492 ki_0 ?_
          exact ra_zret E hr rfl dL_isCanal_493 ⟨Or.inl rfl, h⟩
        · replace h := h.2 q168
          refine ra_aload_n E dL_isCanal_450 rfl 1 rfl ?_
          refine ra_iload E dL_isCanal_451 7 rfl ?_
          refine ra_callIV (rest := []) E (c_X12_cleanPairs _ _ _ h) (lq_X12 _) cv_X12_cleanPairs ml_L_64 (by decide) (lm (by decide)) (fun R => ⟨_, cel_0 tc ad R⟩) rfl rfl rfl (Nat.le_of_ble_eq_true rfl) ⟨Nat.le_of_ble_eq_true rfl, Nat.le_of_ble_eq_true rfl⟩ ⟨Nat.zero_le _, Nat.zero_le _⟩ dL_isCanal_453 (fun r170 M169 h => ?_)
          refine ra_if_lt (tgt := 492) E dL_isCanal_456 (by decide) (fun q171 => ?_) (fun q171 => ?_)
          · replace h := h.1 q171
            refine ra_iconst E dL_isCanal_492 ki_0 ?_
            exact ra_zret E hr rfl dL_isCanal_493 ⟨Or.inl rfl, h⟩
          · replace h := h.2 q171
            refine ra_aload_n E dL_isCanal_459 rfl 1 rfl ?_
            refine ra_iload E dL_isCanal_460 7 rfl ?_
            refine ra_callIV (rest := []) E (c_X12_minutesToTarget _ _ _ h) (lq_X12 _) cv_X12_minutesToTarget ml_L_123 (by decide) (lm (by decide)) (fun R => ⟨_, cel_0 tc ad R⟩) rfl rfl rfl (Nat.le_of_ble_eq_true rfl) ⟨Nat.le_of_ble_eq_true rfl, Nat.le_of_ble_eq_true rfl⟩ ⟨Nat.zero_le _, Nat.zero_le _⟩ dL_isCanal_462 (fun r173 M172 h => ?_)
            refine ra_if_ne (tgt := 472) E dL_isCanal_465 (by decide) (fun q174 => ?_) (fun q174 => ?_)
            · replace h := h.1 q174
              refine ra_iconst E dL_isCanal_472 ki_0 ?_
              exact ra_sub (L' := [(0, _), (1, _), (2, _), (3, _), (4, _), (5, _), (6, _), (8, _)]) [1, 2, 3, 4, 5, 6, 7, 0] rfl (l_L_isCanal_L473 E hr hk259 hk274 _ _ _ _ _ _ _ _ _ h)
            · replace h := h.2 q174
              refine ra_iconst E dL_isCanal_468 ki_1 ?_
              refine ra_goto (tgt := 473) E dL_isCanal_469 (by decide) ?_
              exact ra_sub (L' := [(0, _), (1, _), (2, _), (3, _), (4, _), (5, _), (6, _), (8, _)]) [1, 2, 3, 4, 5, 6, 7, 0] rfl (l_L_isCanal_L473 E hr hk259 hk274 _ _ _ _ _ _ _ _ _ h)
def f_L_isCanal_L274  (K : Int32 → TM → Prop) (k259 : Int32 → Int32 → Int32 → Int32 → Int32 → Int32 → TM → Prop) : Nat → Int32 → Int32 → Int32 → Int32 → Int32 → Int32 → Int32 → Int32 → TM → Prop
  | 0, _, _, _, _, _, _, _, _, _ => False
  | n + 1, x1, x2, x3, x4, x5, x6, x7, x8, M => f_X12_queueLength x6 M (fun r144 M143 => ((r144 ≤ x8 → f_X12_queueLength x6 M143 (fun r147 M146 => f_X12_readyCount x6 M146 (fun r149 M148 => f_X12_placeOf x6 M148 (fun r151 M150 => f_X12_targetOf x6 M150 (fun r153 M152 => ((¬ r151 = r153 → f_L_isCanal_L400 K k259 (f_L_isCanal_L274 K k259 n) x1 x2 x3 (x4 + r147) (x5 + r149) x6 x7 (0 : Int32) M152) ∧ (r151 = r153 → f_L_isCanal_L400 K k259 (f_L_isCanal_L274 K k259 n) x1 x2 x3 (x4 + r147) (x5 + r149) x6 x7 (1 : Int32) M152))))))) ∧ (¬ r144 ≤ x8 → f_X12_queuedOrder x6 x8 M143 (fun r201 M200 => ((r201 < 0 → K (0 : Int32) M200) ∧ (¬ r201 < 0 → f_X12_bargeOf r201 M200 (fun r204 M203 => ((¬ r204 = x6 → K (0 : Int32) M203) ∧ (r204 = x6 → f_X12_isReady r201 M203 (fun r207 M206 => ((¬ r207 = 0 → K (0 : Int32) M206) ∧ (r207 = 0 → f_X12_isOpen r201 M206 (fun r211 M210 => ((¬ r211 = 0 → K (0 : Int32) M210) ∧ (r211 = 0 → f_X12_pullsLeft r201 M210 (fun r215 M214 => (((1 : Int32) ≤ r215 → f_X12_bowls r201 M214 (fun r218 M217 => f_L_isCanal_L274 K k259 n x1 x2 x3 x4 x5 x6 (x7 + r218) (x8 + 1) M217)) ∧ (¬ (1 : Int32) ≤ r215 → K (0 : Int32) M214))))))))))))))))))
set_option maxRecDepth 100000 in
set_option maxHeartbeats 4000000 in
theorem l_L_isCanal_L274 {p : Program} {l : Launch} {e : Env} {s : State} {m : MethodId} {args : Array Value} {below : List Frame} {meth : Method} {c : Code} {D : va_G} {tc : Nat → ClassId} {ad : Nat → Nat}  {K : Int32 → TM → Prop} {k259 : Int32 → Int32 → Int32 → Int32 → Int32 → Int32 → TM → Prop} (E : Ev p s m args meth c D tc ad RL cL_isCanal 16) (hr : meth.sig.returnType = (some .boolean)) (hk259 : ∀ (x1 : Int32) (x2 : Int32) (x3 : Int32) (x4 : Int32) (x5 : Int32) (x6 : Int32) (M : TM) , k259 x1 x2 x3 x4 x5 x6 M → Wa p l e (rmD 5) s m args below meth c 0 0 (MQ below (va_Qi (fun r M' => (r = 0 ∨ r = 1) ∧ K r M') (EndW D tc ad) (A0 ad s.heap.size)) args s 0 0 (A0 ad s.heap.size)) D tc ad 16 M 259 [(0, .ref (ad 0)), (1, .int x1), (2, .int x2), (3, .int x3), (4, .int x4), (5, .int x5), (6, .int x6)] []) : ∀ (n : Nat) (x1 : Int32) (x2 : Int32) (x3 : Int32) (x4 : Int32) (x5 : Int32) (x6 : Int32) (x7 : Int32) (x8 : Int32) (M : TM) , f_L_isCanal_L274  K k259 n x1 x2 x3 x4 x5 x6 x7 x8 M → Wa p l e (rmD 5) s m args below meth c 0 0 (MQ below (va_Qi (fun r M' => (r = 0 ∨ r = 1) ∧ K r M') (EndW D tc ad) (A0 ad s.heap.size)) args s 0 0 (A0 ad s.heap.size)) D tc ad 16 M 274 [(0, .ref (ad 0)), (1, .int x1), (2, .int x2), (3, .int x3), (4, .int x4), (5, .int x5), (6, .int x6), (7, .int x7), (8, .int x8)] [] := by
  intro n
  induction n with
  | zero => intro x1 x2 x3 x4 x5 x6 x7 x8 M  h; exact h.elim
  | succ n ih =>
    intro x1 x2 x3 x4 x5 x6 x7 x8 M  h
    unfold f_L_isCanal_L274 at h
    refine ra_iload E dL_isCanal_274 8 rfl ?_
    refine ra_aload_n E dL_isCanal_276 rfl 0 rfl ?_
    refine ra_iload E dL_isCanal_277 6 rfl ?_
    refine ra_callIV (rest := [_]) E (c_X12_queueLength _ _ _ h) (lq_X12 _) cv_X12_queueLength ml_L_111 (by decide) (lm (by decide)) (fun R => ⟨_, cel_0 tc ad R⟩) rfl rfl rfl (Nat.le_of_ble_eq_true rfl) ⟨Nat.le_of_ble_eq_true rfl, Nat.le_of_ble_eq_true rfl⟩ ⟨Nat.zero_le _, Nat.zero_le _⟩ dL_isCanal_279 (fun r144 M143 h => ?_)
    refine ra_icmp_ge (tgt := 358) E dL_isCanal_282 (by decide) (fun q145 => ?_) (fun q145 => ?_)
    · replace h := h.1 q145
      refine ra_iload E dL_isCanal_358 4 rfl ?_
      refine ra_aload_n E dL_isCanal_360 rfl 0 rfl ?_
      refine ra_iload E dL_isCanal_361 6 rfl ?_
      refine ra_callIV (rest := [_]) E (c_X12_queueLength _ _ _ h) (lq_X12 _) cv_X12_queueLength ml_L_111 (by decide) (lm (by decide)) (fun R => ⟨_, cel_0 tc ad R⟩) rfl rfl rfl (Nat.le_of_ble_eq_true rfl) ⟨Nat.le_of_ble_eq_true rfl, Nat.le_of_ble_eq_true rfl⟩ ⟨Nat.zero_le _, Nat.zero_le _⟩ dL_isCanal_363 (fun r147 M146 h => ?_)
      refine ra_iadd E dL_isCanal_366 ?_
      refine ra_istore (L' := [(4, _), (0, _), (1, _), (2, _), (3, _), (5, _), (6, _), (7, _), (8, _)]) E dL_isCanal_367 (by decide) rfl ?_
      refine ra_iload E dL_isCanal_369 5 rfl ?_
      refine ra_aload_n E dL_isCanal_371 rfl 1 rfl ?_
      refine ra_iload E dL_isCanal_372 6 rfl ?_
      refine ra_callIV (rest := [_]) E (c_X12_readyCount _ _ _ h) (lq_X12 _) cv_X12_readyCount ml_L_117 (by decide) (lm (by decide)) (fun R => ⟨_, cel_0 tc ad R⟩) rfl rfl rfl (Nat.le_of_ble_eq_true rfl) ⟨Nat.le_of_ble_eq_true rfl, Nat.le_of_ble_eq_true rfl⟩ ⟨Nat.zero_le _, Nat.zero_le _⟩ dL_isCanal_374 (fun r149 M148 h => ?_)
      refine ra_iadd E dL_isCanal_377 ?_
      refine ra_istore (L' := [(5, _), (4, _), (0, _), (1, _), (2, _), (3, _), (6, _), (7, _), (8, _)]) E dL_isCanal_378 (by decide) rfl ?_
      refine ra_aload_n E dL_isCanal_380 rfl 2 rfl ?_
      refine ra_iload E dL_isCanal_381 6 rfl ?_
      refine ra_callIV (rest := []) E (c_X12_placeOf _ _ _ h) (lq_X12 _) cv_X12_placeOf ml_L_51 (by decide) (lm (by decide)) (fun R => ⟨_, cel_0 tc ad R⟩) rfl rfl rfl (Nat.le_of_ble_eq_true rfl) ⟨Nat.le_of_ble_eq_true rfl, Nat.le_of_ble_eq_true rfl⟩ ⟨Nat.zero_le _, Nat.zero_le _⟩ dL_isCanal_383 (fun r151 M150 h => ?_)
      refine ra_aload_n E dL_isCanal_386 rfl 2 rfl ?_
      refine ra_iload E dL_isCanal_387 6 rfl ?_
      refine ra_callIV (rest := [_]) E (c_X12_targetOf _ _ _ h) (lq_X12 _) cv_X12_targetOf ml_L_55 (by decide) (lm (by decide)) (fun R => ⟨_, cel_0 tc ad R⟩) rfl rfl rfl (Nat.le_of_ble_eq_true rfl) ⟨Nat.le_of_ble_eq_true rfl, Nat.le_of_ble_eq_true rfl⟩ ⟨Nat.zero_le _, Nat.zero_le _⟩ dL_isCanal_389 (fun r153 M152 h => ?_)
      refine ra_icmp_ne (tgt := 399) E dL_isCanal_392 (by decide) (fun q154 => ?_) (fun q154 => ?_)
      · replace h := h.1 q154
        refine ra_iconst E dL_isCanal_399 ki_0 ?_
        exact ra_sub (L' := [(0, _), (1, _), (2, _), (3, _), (4, _), (5, _), (6, _), (7, _)]) [2, 3, 4, 5, 1, 0, 6, 7] rfl (l_L_isCanal_L400 E hr hk259 ih _ _ _ _ _ _ _ _ _ h)
      · replace h := h.2 q154
        refine ra_iconst E dL_isCanal_395 ki_1 ?_
        refine ra_goto (tgt := 400) E dL_isCanal_396 (by decide) ?_
        exact ra_sub (L' := [(0, _), (1, _), (2, _), (3, _), (4, _), (5, _), (6, _), (7, _)]) [2, 3, 4, 5, 1, 0, 6, 7] rfl (l_L_isCanal_L400 E hr hk259 ih _ _ _ _ _ _ _ _ _ h)
    · replace h := h.2 q145
      refine ra_aload_n E dL_isCanal_285 rfl 0 rfl ?_
      refine ra_iload E dL_isCanal_286 6 rfl ?_
      refine ra_iload E dL_isCanal_288 8 rfl ?_
      refine ra_callIV (rest := []) E (c_X12_queuedOrder _ _ _ _ h) (lq_X12 _) cv_X12_queuedOrder ml_L_70 (by decide) (lm (by decide)) (fun R => ⟨_, cel_0 tc ad R⟩) rfl rfl rfl (Nat.le_of_ble_eq_true rfl) ⟨Nat.le_of_ble_eq_true rfl, Nat.le_of_ble_eq_true rfl⟩ ⟨Nat.zero_le _, Nat.zero_le _⟩ dL_isCanal_290 (fun r201 M200 h => ?_)
      refine ra_istore (L' := [(9, _), (0, _), (1, _), (2, _), (3, _), (4, _), (5, _), (6, _), (7, _), (8, _)]) E dL_isCanal_293 (by decide) rfl ?_
      refine ra_iload E dL_isCanal_295 0 rfl ?_
      refine ra_if_lt (tgt := 339) E dL_isCanal_297 (by decide) (fun q202 => ?_) (fun q202 => ?_)
      · replace h := h.1 q202
        refine ra_iconst E dL_isCanal_339 ki_0 ?_
        exact ra_zret E hr rfl dL_isCanal_340 ⟨Or.inl rfl, h⟩
      · replace h := h.2 q202
        refine ra_aload_n E dL_isCanal_300 rfl 1 rfl ?_
        refine ra_iload E dL_isCanal_301 0 rfl ?_
        refine ra_callIV (rest := []) E (c_X12_bargeOf _ _ _ h) (lq_X12 _) cv_X12_bargeOf ml_L_77 (by decide) (lm (by decide)) (fun R => ⟨_, cel_0 tc ad R⟩) rfl rfl rfl (Nat.le_of_ble_eq_true rfl) ⟨Nat.le_of_ble_eq_true rfl, Nat.le_of_ble_eq_true rfl⟩ ⟨Nat.zero_le _, Nat.zero_le _⟩ dL_isCanal_303 (fun r204 M203 h => ?_)
        refine ra_iload E dL_isCanal_306 7 rfl ?_
        refine ra_icmp_ne (tgt := 339) E dL_isCanal_308 (by decide) (fun q205 => ?_) (fun q205 => ?_)
        · replace h := h.1 q205
          refine ra_iconst E dL_isCanal_339 ki_0 ?_
          exact ra_zret E hr rfl dL_isCanal_340 ⟨Or.inl rfl, h⟩
        · replace h := h.2 q205
          refine ra_aload_n E dL_isCanal_311 rfl 1 rfl ?_
          refine ra_iload E dL_isCanal_312 0 rfl ?_
          refine ra_callIV (rest := []) E (c_X12_isReady _ _ _ h) (lq_X12 _) cv_X12_isReady ml_L_87 (by decide) (lm (by decide)) (fun R => ⟨_, cel_0 tc ad R⟩) rfl rfl rfl (Nat.le_of_ble_eq_true rfl) ⟨Nat.le_of_ble_eq_true rfl, Nat.le_of_ble_eq_true rfl⟩ ⟨Nat.zero_le _, Nat.zero_le _⟩ dL_isCanal_314 (fun r207 M206 h => ?_)
          obtain ⟨b208, h⟩ := h
          refine ra_if_ne (tgt := 339) E dL_isCanal_317 (by decide) (fun q209 => ?_) (fun q209 => ?_)
          · replace h := h.1 q209
            refine ra_iconst E dL_isCanal_339 ki_0 ?_
            exact ra_zret E hr rfl dL_isCanal_340 ⟨Or.inl rfl, h⟩
          · replace h := h.2 q209
            refine ra_aload_n E dL_isCanal_320 rfl 1 rfl ?_
            refine ra_iload E dL_isCanal_321 0 rfl ?_
            refine ra_callIV (rest := []) E (c_X12_isOpen _ _ _ h) (lq_X12 _) cv_X12_isOpen ml_L_83 (by decide) (lm (by decide)) (fun R => ⟨_, cel_0 tc ad R⟩) rfl rfl rfl (Nat.le_of_ble_eq_true rfl) ⟨Nat.le_of_ble_eq_true rfl, Nat.le_of_ble_eq_true rfl⟩ ⟨Nat.zero_le _, Nat.zero_le _⟩ dL_isCanal_323 (fun r211 M210 h => ?_)
            obtain ⟨b212, h⟩ := h
            refine ra_if_ne (tgt := 339) E dL_isCanal_326 (by decide) (fun q213 => ?_) (fun q213 => ?_)
            · replace h := h.1 q213
              refine ra_iconst E dL_isCanal_339 ki_0 ?_
              exact ra_zret E hr rfl dL_isCanal_340 ⟨Or.inl rfl, h⟩
            · replace h := h.2 q213
              refine ra_aload_n E dL_isCanal_329 rfl 1 rfl ?_
              refine ra_iload E dL_isCanal_330 0 rfl ?_
              refine ra_callIV (rest := []) E (c_X12_pullsLeft _ _ _ h) (lq_X12 _) cv_X12_pullsLeft ml_L_74 (by decide) (lm (by decide)) (fun R => ⟨_, cel_0 tc ad R⟩) rfl rfl rfl (Nat.le_of_ble_eq_true rfl) ⟨Nat.le_of_ble_eq_true rfl, Nat.le_of_ble_eq_true rfl⟩ ⟨Nat.zero_le _, Nat.zero_le _⟩ dL_isCanal_332 (fun r215 M214 h => ?_)
              refine ra_iconst E dL_isCanal_335 ki_1 ?_
              refine ra_icmp_ge (tgt := 341) E dL_isCanal_336 (by decide) (fun q216 => ?_) (fun q216 => ?_)
              · replace h := h.1 q216
                refine ra_iload E dL_isCanal_341 8 rfl ?_
                refine ra_aload_n E dL_isCanal_343 rfl 1 rfl ?_
                refine ra_iload E dL_isCanal_344 0 rfl ?_
                refine ra_callIV (rest := [_]) E (c_X12_bowls _ _ _ h) (lq_X12 _) cv_X12_bowls ml_L_114 (by decide) (lm (by decide)) (fun R => ⟨_, cel_0 tc ad R⟩) rfl rfl rfl (Nat.le_of_ble_eq_true rfl) ⟨Nat.le_of_ble_eq_true rfl, Nat.le_of_ble_eq_true rfl⟩ ⟨Nat.zero_le _, Nat.zero_le _⟩ dL_isCanal_346 (fun r218 M217 h => ?_)
                refine ra_iadd E dL_isCanal_349 ?_
                refine ra_istore (L' := [(7, _), (9, _), (0, _), (1, _), (2, _), (3, _), (4, _), (5, _), (6, _), (8, _)]) E dL_isCanal_350 (by decide) rfl ?_
                refine ra_iinc1 (L' := [(8, _), (7, _), (9, _), (0, _), (1, _), (2, _), (3, _), (4, _), (5, _), (6, _)]) E dL_isCanal_352 9 rfl (by decide) rfl ?_
                refine ra_goto (tgt := 274) E dL_isCanal_355 (by decide) ?_
                exact ra_sub (L' := [(0, _), (1, _), (2, _), (3, _), (4, _), (5, _), (6, _), (7, _), (8, _)]) [3, 4, 5, 6, 7, 8, 9, 1, 0] rfl (ih _ _ _ _ _ _ _ _ _ h)
              · replace h := h.2 q216
                refine ra_iconst E dL_isCanal_339 ki_0 ?_
                exact ra_zret E hr rfl dL_isCanal_340 ⟨Or.inl rfl, h⟩
def f_L_isCanal_L259  (K : Int32 → TM → Prop) : Nat → Int32 → Int32 → Int32 → Int32 → Int32 → Int32 → TM → Prop
  | 0, _, _, _, _, _, _, _ => False
  | n + 1, x1, x2, x3, x4, x5, x6, M => f_X12_bargeCount M (fun r8 M7 => ((r8 ≤ x6 → f_X12_mostUrgentOrder M7 (fun r11 M10 => ∃ n612, f_L_isCanal_L612 K n612 x1 x2 x3 x4 x5 (0 : Int32) (0 : Int32) (0 : Int32) (0 : Int32) r11 (0 : Int32) M10)) ∧ (¬ r8 ≤ x6 → ∃ n274, f_L_isCanal_L274 K (f_L_isCanal_L259 K n) n274 x1 x2 x3 x4 x5 x6 (0 : Int32) (0 : Int32) M7)))
set_option maxRecDepth 100000 in
set_option maxHeartbeats 4000000 in
theorem l_L_isCanal_L259 {p : Program} {l : Launch} {e : Env} {s : State} {m : MethodId} {args : Array Value} {below : List Frame} {meth : Method} {c : Code} {D : va_G} {tc : Nat → ClassId} {ad : Nat → Nat}  {K : Int32 → TM → Prop} (E : Ev p s m args meth c D tc ad RL cL_isCanal 16) (hr : meth.sig.returnType = (some .boolean)) : ∀ (n : Nat) (x1 : Int32) (x2 : Int32) (x3 : Int32) (x4 : Int32) (x5 : Int32) (x6 : Int32) (M : TM) , f_L_isCanal_L259  K n x1 x2 x3 x4 x5 x6 M → Wa p l e (rmD 5) s m args below meth c 0 0 (MQ below (va_Qi (fun r M' => (r = 0 ∨ r = 1) ∧ K r M') (EndW D tc ad) (A0 ad s.heap.size)) args s 0 0 (A0 ad s.heap.size)) D tc ad 16 M 259 [(0, .ref (ad 0)), (1, .int x1), (2, .int x2), (3, .int x3), (4, .int x4), (5, .int x5), (6, .int x6)] [] := by
  intro n
  induction n with
  | zero => intro x1 x2 x3 x4 x5 x6 M  h; exact h.elim
  | succ n ih =>
    intro x1 x2 x3 x4 x5 x6 M  h
    unfold f_L_isCanal_L259 at h
    refine ra_iload E dL_isCanal_259 6 rfl ?_
    refine ra_aload_n E dL_isCanal_261 rfl 0 rfl ?_
    refine ra_callIV (rest := [_]) E (c_X12_bargeCount _ _ h) (lq_X12 _) cv_X12_bargeCount ml_L_30 (by decide) (lm (by decide)) (fun R => ⟨_, cel_0 tc ad R⟩) rfl rfl rfl (Nat.le_of_ble_eq_true rfl) ⟨Nat.le_of_ble_eq_true rfl, Nat.le_of_ble_eq_true rfl⟩ ⟨Nat.zero_le _, Nat.zero_le _⟩ dL_isCanal_262 (fun r8 M7 h => ?_)
    refine ra_icmp_ge (tgt := 591) E dL_isCanal_265 (by decide) (fun q9 => ?_) (fun q9 => ?_)
    · replace h := h.1 q9
      refine ra_iconst E dL_isCanal_591 ki_0 ?_
      refine ra_istore (L' := [(6, _), (0, _), (1, _), (2, _), (3, _), (4, _), (5, _)]) E dL_isCanal_592 (by decide) rfl ?_
      refine ra_iconst E dL_isCanal_594 ki_0 ?_
      refine ra_istore (L' := [(7, _), (6, _), (0, _), (1, _), (2, _), (3, _), (4, _), (5, _)]) E dL_isCanal_595 (by decide) rfl ?_
      refine ra_iconst E dL_isCanal_597 ki_0 ?_
      refine ra_istore (L' := [(8, _), (7, _), (6, _), (0, _), (1, _), (2, _), (3, _), (4, _), (5, _)]) E dL_isCanal_598 (by decide) rfl ?_
      refine ra_iconst E dL_isCanal_600 ki_0 ?_
      refine ra_istore (L' := [(9, _), (8, _), (7, _), (6, _), (0, _), (1, _), (2, _), (3, _), (4, _), (5, _)]) E dL_isCanal_601 (by decide) rfl ?_
      refine ra_aload_n E dL_isCanal_603 rfl 4 rfl ?_
      refine ra_callIV (rest := []) E (c_X12_mostUrgentOrder _ _ h) (lq_X12 _) cv_X12_mostUrgentOrder ml_L_129 (by decide) (lm (by decide)) (fun R => ⟨_, cel_0 tc ad R⟩) rfl rfl rfl (Nat.le_of_ble_eq_true rfl) ⟨Nat.le_of_ble_eq_true rfl, Nat.le_of_ble_eq_true rfl⟩ ⟨Nat.zero_le _, Nat.zero_le _⟩ dL_isCanal_604 (fun r11 M10 h => ?_)
      refine ra_istore (L' := [(10, _), (9, _), (8, _), (7, _), (6, _), (0, _), (1, _), (2, _), (3, _), (4, _), (5, _)]) E dL_isCanal_607 (by decide) rfl ?_
      refine ra_iconst E dL_isCanal_609 ki_0 ?_
      refine ra_istore (L' := [(11, _), (10, _), (9, _), (8, _), (7, _), (6, _), (0, _), (1, _), (2, _), (3, _), (4, _), (5, _)]) E dL_isCanal_610 (by decide) rfl ?_
      obtain ⟨n142, h⟩ := h
      exact ra_sub (L' := [(0, _), (1, _), (2, _), (3, _), (4, _), (5, _), (6, _), (7, _), (8, _), (9, _), (10, _), (11, _)]) [6, 7, 8, 9, 10, 11, 5, 4, 3, 2, 1, 0] rfl (l_L_isCanal_L612 E hr n142 _ _ _ _ _ _ _ _ _ _ _ _ h)
    · replace h := h.2 q9
      refine ra_iconst E dL_isCanal_268 ki_0 ?_
      refine ra_istore (L' := [(7, _), (0, _), (1, _), (2, _), (3, _), (4, _), (5, _), (6, _)]) E dL_isCanal_269 (by decide) rfl ?_
      refine ra_iconst E dL_isCanal_271 ki_0 ?_
      refine ra_istore (L' := [(8, _), (7, _), (0, _), (1, _), (2, _), (3, _), (4, _), (5, _), (6, _)]) E dL_isCanal_272 (by decide) rfl ?_
      obtain ⟨n219, h⟩ := h
      exact ra_sub (L' := [(0, _), (1, _), (2, _), (3, _), (4, _), (5, _), (6, _), (7, _), (8, _)]) [2, 3, 4, 5, 6, 7, 8, 1, 0] rfl (l_L_isCanal_L274 E hr ih n219 _ _ _ _ _ _ _ _ _ h)
def f_L_isCanal_L227  (K : Int32 → TM → Prop) (k109 : Int32 → Int32 → Int32 → Int32 → TM → Prop) (x1 : Int32) (x2 : Int32) (x3 : Int32) (x4 : Int32) (x5 : Int32) (M : TM) : Prop := f_X12_targetOf x5 M (fun r246 M245 => f_X12_placeOf x5 M245 (fun r248 M247 => ((¬ r246 = r248 → k109 x1 x2 x3 (x4 + 1) M247) ∧ (r246 = r248 → K (0 : Int32) M247))))
set_option maxRecDepth 100000 in
set_option maxHeartbeats 4000000 in
theorem l_L_isCanal_L227 {p : Program} {l : Launch} {e : Env} {s : State} {m : MethodId} {args : Array Value} {below : List Frame} {meth : Method} {c : Code} {D : va_G} {tc : Nat → ClassId} {ad : Nat → Nat}  {K : Int32 → TM → Prop} {k109 : Int32 → Int32 → Int32 → Int32 → TM → Prop} (E : Ev p s m args meth c D tc ad RL cL_isCanal 16) (hr : meth.sig.returnType = (some .boolean)) (hk109 : ∀ (x1 : Int32) (x2 : Int32) (x3 : Int32) (x4 : Int32) (M : TM) , k109 x1 x2 x3 x4 M → Wa p l e (rmD 5) s m args below meth c 0 0 (MQ below (va_Qi (fun r M' => (r = 0 ∨ r = 1) ∧ K r M') (EndW D tc ad) (A0 ad s.heap.size)) args s 0 0 (A0 ad s.heap.size)) D tc ad 16 M 109 [(0, .ref (ad 0)), (1, .int x1), (2, .int x2), (3, .int x3), (4, .int x4)] []) : ∀ (x1 : Int32) (x2 : Int32) (x3 : Int32) (x4 : Int32) (x5 : Int32) (M : TM) , f_L_isCanal_L227  K k109 x1 x2 x3 x4 x5 M → Wa p l e (rmD 5) s m args below meth c 0 0 (MQ below (va_Qi (fun r M' => (r = 0 ∨ r = 1) ∧ K r M') (EndW D tc ad) (A0 ad s.heap.size)) args s 0 0 (A0 ad s.heap.size)) D tc ad 16 M 227 [(0, .ref (ad 0)), (1, .int x1), (2, .int x2), (3, .int x3), (4, .int x4), (5, .int x5)] [] := by
  intro x1 x2 x3 x4 x5 M  h
  unfold f_L_isCanal_L227 at h
  refine ra_aload_n E dL_isCanal_227 rfl 0 rfl ?_
  refine ra_iload E dL_isCanal_228 5 rfl ?_
  refine ra_callIV (rest := []) E (c_X12_targetOf _ _ _ h) (lq_X12 _) cv_X12_targetOf ml_L_55 (by decide) (lm (by decide)) (fun R => ⟨_, cel_0 tc ad R⟩) rfl rfl rfl (Nat.le_of_ble_eq_true rfl) ⟨Nat.le_of_ble_eq_true rfl, Nat.le_of_ble_eq_true rfl⟩ ⟨Nat.zero_le _, Nat.zero_le _⟩ dL_isCanal_230 (fun r246 M245 h => ?_)
  refine ra_aload_n E dL_isCanal_233 rfl 0 rfl ?_
  refine ra_iload E dL_isCanal_234 5 rfl ?_
  refine ra_callIV (rest := [_]) E (c_X12_placeOf _ _ _ h) (lq_X12 _) cv_X12_placeOf ml_L_51 (by decide) (lm (by decide)) (fun R => ⟨_, cel_0 tc ad R⟩) rfl rfl rfl (Nat.le_of_ble_eq_true rfl) ⟨Nat.le_of_ble_eq_true rfl, Nat.le_of_ble_eq_true rfl⟩ ⟨Nat.zero_le _, Nat.zero_le _⟩ dL_isCanal_236 (fun r248 M247 h => ?_)
  refine ra_icmp_ne (tgt := 244) E dL_isCanal_239 (by decide) (fun q249 => ?_) (fun q249 => ?_)
  · replace h := h.1 q249
    refine ra_iinc1 (L' := [(4, _), (0, _), (1, _), (2, _), (3, _), (5, _)]) E dL_isCanal_244 4 rfl (by decide) rfl ?_
    refine ra_goto (tgt := 109) E dL_isCanal_247 (by decide) ?_
    exact ra_sub (L' := [(0, _), (1, _), (2, _), (3, _), (4, _)]) [1, 2, 3, 4, 0] rfl (hk109 _ _ _ _ _ h)
  · replace h := h.2 q249
    refine ra_iconst E dL_isCanal_242 ki_0 ?_
    exact ra_zret E hr rfl dL_isCanal_243 ⟨Or.inl rfl, h⟩
def f_L_isCanal_L199  (K : Int32 → TM → Prop) (k109 : Int32 → Int32 → Int32 → Int32 → TM → Prop) (x1 : Int32) (x2 : Int32) (x3 : Int32) (x4 : Int32) (x5 : Int32) (M : TM) : Prop := f_X12_targetOf x5 M (fun r241 M240 => f_X12_placeOf x5 M240 (fun r243 M242 => ((r243 ≤ r241 → f_L_isCanal_L227 K k109 x1 x2 x3 x4 x5 M242) ∧ (¬ r243 ≤ r241 → f_X12_placeOf x5 M242 (fun r251 M250 => ((¬ r251 = (x4 + (1 : Int32)) → K (0 : Int32) M250) ∧ (r251 = (x4 + (1 : Int32)) → f_L_isCanal_L227 K k109 x1 x2 x3 x4 x5 M250)))))))
set_option maxRecDepth 100000 in
set_option maxHeartbeats 4000000 in
theorem l_L_isCanal_L199 {p : Program} {l : Launch} {e : Env} {s : State} {m : MethodId} {args : Array Value} {below : List Frame} {meth : Method} {c : Code} {D : va_G} {tc : Nat → ClassId} {ad : Nat → Nat}  {K : Int32 → TM → Prop} {k109 : Int32 → Int32 → Int32 → Int32 → TM → Prop} (E : Ev p s m args meth c D tc ad RL cL_isCanal 16) (hr : meth.sig.returnType = (some .boolean)) (hk109 : ∀ (x1 : Int32) (x2 : Int32) (x3 : Int32) (x4 : Int32) (M : TM) , k109 x1 x2 x3 x4 M → Wa p l e (rmD 5) s m args below meth c 0 0 (MQ below (va_Qi (fun r M' => (r = 0 ∨ r = 1) ∧ K r M') (EndW D tc ad) (A0 ad s.heap.size)) args s 0 0 (A0 ad s.heap.size)) D tc ad 16 M 109 [(0, .ref (ad 0)), (1, .int x1), (2, .int x2), (3, .int x3), (4, .int x4)] []) : ∀ (x1 : Int32) (x2 : Int32) (x3 : Int32) (x4 : Int32) (x5 : Int32) (M : TM) , f_L_isCanal_L199  K k109 x1 x2 x3 x4 x5 M → Wa p l e (rmD 5) s m args below meth c 0 0 (MQ below (va_Qi (fun r M' => (r = 0 ∨ r = 1) ∧ K r M') (EndW D tc ad) (A0 ad s.heap.size)) args s 0 0 (A0 ad s.heap.size)) D tc ad 16 M 199 [(0, .ref (ad 0)), (1, .int x1), (2, .int x2), (3, .int x3), (4, .int x4), (5, .int x5)] [] := by
  intro x1 x2 x3 x4 x5 M  h
  unfold f_L_isCanal_L199 at h
  refine ra_aload_n E dL_isCanal_199 rfl 0 rfl ?_
  refine ra_iload E dL_isCanal_200 5 rfl ?_
  refine ra_callIV (rest := []) E (c_X12_targetOf _ _ _ h) (lq_X12 _) cv_X12_targetOf ml_L_55 (by decide) (lm (by decide)) (fun R => ⟨_, cel_0 tc ad R⟩) rfl rfl rfl (Nat.le_of_ble_eq_true rfl) ⟨Nat.le_of_ble_eq_true rfl, Nat.le_of_ble_eq_true rfl⟩ ⟨Nat.zero_le _, Nat.zero_le _⟩ dL_isCanal_202 (fun r241 M240 h => ?_)
  refine ra_aload_n E dL_isCanal_205 rfl 0 rfl ?_
  refine ra_iload E dL_isCanal_206 5 rfl ?_
  refine ra_callIV (rest := [_]) E (c_X12_placeOf _ _ _ h) (lq_X12 _) cv_X12_placeOf ml_L_51 (by decide) (lm (by decide)) (fun R => ⟨_, cel_0 tc ad R⟩) rfl rfl rfl (Nat.le_of_ble_eq_true rfl) ⟨Nat.le_of_ble_eq_true rfl, Nat.le_of_ble_eq_true rfl⟩ ⟨Nat.zero_le _, Nat.zero_le _⟩ dL_isCanal_208 (fun r243 M242 h => ?_)
  refine ra_icmp_ge (tgt := 227) E dL_isCanal_211 (by decide) (fun q244 => ?_) (fun q244 => ?_)
  · replace h := h.1 q244
    exact ra_sub (L' := [(0, _), (1, _), (2, _), (3, _), (4, _), (5, _)]) [0, 1, 2, 3, 4, 5] rfl (l_L_isCanal_L227 E hr hk109 _ _ _ _ _ _ h)
  · replace h := h.2 q244
    refine ra_aload_n E dL_isCanal_214 rfl 0 rfl ?_
    refine ra_iload E dL_isCanal_215 5 rfl ?_
    refine ra_callIV (rest := []) E (c_X12_placeOf _ _ _ h) (lq_X12 _) cv_X12_placeOf ml_L_51 (by decide) (lm (by decide)) (fun R => ⟨_, cel_0 tc ad R⟩) rfl rfl rfl (Nat.le_of_ble_eq_true rfl) ⟨Nat.le_of_ble_eq_true rfl, Nat.le_of_ble_eq_true rfl⟩ ⟨Nat.zero_le _, Nat.zero_le _⟩ dL_isCanal_217 (fun r251 M250 h => ?_)
    refine ra_iload E dL_isCanal_220 4 rfl ?_
    refine ra_iconst E dL_isCanal_222 ki_1 ?_
    refine ra_iadd E dL_isCanal_223 ?_
    refine ra_icmp_ne (tgt := 242) E dL_isCanal_224 (by decide) (fun q252 => ?_) (fun q252 => ?_)
    · replace h := h.1 q252
      refine ra_iconst E dL_isCanal_242 ki_0 ?_
      exact ra_zret E hr rfl dL_isCanal_243 ⟨Or.inl rfl, h⟩
    · replace h := h.2 q252
      exact ra_sub (L' := [(0, _), (1, _), (2, _), (3, _), (4, _), (5, _)]) [0, 1, 2, 3, 4, 5] rfl (l_L_isCanal_L227 E hr hk109 _ _ _ _ _ _ h)
def f_L_isCanal_L109  (K : Int32 → TM → Prop) : Nat → Int32 → Int32 → Int32 → Int32 → TM → Prop
  | 0, _, _, _, _, _ => False
  | n + 1, x1, x2, x3, x4, M => f_X12_placeCount M (fun r5 M4 => (((r5 - (1 : Int32)) ≤ x4 → ∃ n259, f_L_isCanal_L259 K n259 x1 x2 x3 (0 : Int32) (0 : Int32) (0 : Int32) M4) ∧ (¬ (r5 - (1 : Int32)) ≤ x4 → f_X12_bargeInLock x4 M4 (fun r222 M221 => ((0 ≤ r222 → f_X12_lockWait x4 M221 (fun r225 M224 => ((r225 = 0 → K (0 : Int32) M224) ∧ (¬ r225 = 0 → f_X12_timeInLock r222 M224 (fun r228 M227 => ((r228 < (1 : Int32) → K (0 : Int32) M227) ∧ (¬ r228 < (1 : Int32) → f_X12_timeInLock r222 M227 (fun r231 M230 => f_X12_lockWait x4 M230 (fun r233 M232 => ((r233 < r231 → K (0 : Int32) M232) ∧ (¬ r233 < r231 → f_X12_targetOf r222 M232 (fun r236 M235 => f_X12_placeOf r222 M235 (fun r238 M237 => ((r236 ≤ r238 → f_L_isCanal_L199 K (f_L_isCanal_L109 K n) x1 (x2 + 1) x3 x4 r222 M237) ∧ (¬ r236 ≤ r238 → f_X12_placeOf r222 M237 (fun r254 M253 => ((¬ r254 = x4 → K (0 : Int32) M253) ∧ (r254 = x4 → f_L_isCanal_L199 K (f_L_isCanal_L109 K n) x1 (x2 + 1) x3 x4 r222 M253)))))))))))))))))) ∧ (¬ 0 ≤ r222 → f_L_isCanal_L109 K n x1 x2 x3 (x4 + 1) M221))))))
set_option maxRecDepth 100000 in
set_option maxHeartbeats 4000000 in
theorem l_L_isCanal_L109 {p : Program} {l : Launch} {e : Env} {s : State} {m : MethodId} {args : Array Value} {below : List Frame} {meth : Method} {c : Code} {D : va_G} {tc : Nat → ClassId} {ad : Nat → Nat}  {K : Int32 → TM → Prop} (E : Ev p s m args meth c D tc ad RL cL_isCanal 16) (hr : meth.sig.returnType = (some .boolean)) : ∀ (n : Nat) (x1 : Int32) (x2 : Int32) (x3 : Int32) (x4 : Int32) (M : TM) , f_L_isCanal_L109  K n x1 x2 x3 x4 M → Wa p l e (rmD 5) s m args below meth c 0 0 (MQ below (va_Qi (fun r M' => (r = 0 ∨ r = 1) ∧ K r M') (EndW D tc ad) (A0 ad s.heap.size)) args s 0 0 (A0 ad s.heap.size)) D tc ad 16 M 109 [(0, .ref (ad 0)), (1, .int x1), (2, .int x2), (3, .int x3), (4, .int x4)] [] := by
  intro n
  induction n with
  | zero => intro x1 x2 x3 x4 M  h; exact h.elim
  | succ n ih =>
    intro x1 x2 x3 x4 M  h
    unfold f_L_isCanal_L109 at h
    refine ra_iload E dL_isCanal_109 4 rfl ?_
    refine ra_aload_n E dL_isCanal_111 rfl 0 rfl ?_
    refine ra_callIV (rest := [_]) E (c_X12_placeCount _ _ h) (lq_X12 _) cv_X12_placeCount ml_L_36 (by decide) (lm (by decide)) (fun R => ⟨_, cel_0 tc ad R⟩) rfl rfl rfl (Nat.le_of_ble_eq_true rfl) ⟨Nat.le_of_ble_eq_true rfl, Nat.le_of_ble_eq_true rfl⟩ ⟨Nat.zero_le _, Nat.zero_le _⟩ dL_isCanal_112 (fun r5 M4 h => ?_)
    refine ra_iconst E dL_isCanal_115 ki_1 ?_
    refine ra_isub E dL_isCanal_116 ?_
    refine ra_icmp_ge (tgt := 250) E dL_isCanal_117 (by decide) (fun q6 => ?_) (fun q6 => ?_)
    · replace h := h.1 q6
      refine ra_iconst E dL_isCanal_250 ki_0 ?_
      refine ra_istore (L' := [(4, _), (0, _), (1, _), (2, _), (3, _)]) E dL_isCanal_251 (by decide) rfl ?_
      refine ra_iconst E dL_isCanal_253 ki_0 ?_
      refine ra_istore (L' := [(5, _), (4, _), (0, _), (1, _), (2, _), (3, _)]) E dL_isCanal_254 (by decide) rfl ?_
      refine ra_iconst E dL_isCanal_256 ki_0 ?_
      refine ra_istore (L' := [(6, _), (5, _), (4, _), (0, _), (1, _), (2, _), (3, _)]) E dL_isCanal_257 (by decide) rfl ?_
      obtain ⟨n220, h⟩ := h
      exact ra_sub (L' := [(0, _), (1, _), (2, _), (3, _), (4, _), (5, _), (6, _)]) [3, 4, 5, 6, 2, 1, 0] rfl (l_L_isCanal_L259 E hr n220 _ _ _ _ _ _ _ h)
    · replace h := h.2 q6
      refine ra_aload_n E dL_isCanal_120 rfl 0 rfl ?_
      refine ra_iload E dL_isCanal_121 4 rfl ?_
      refine ra_callIV (rest := []) E (c_X12_bargeInLock _ _ _ h) (lq_X12 _) cv_X12_bargeInLock ml_L_105 (by decide) (lm (by decide)) (fun R => ⟨_, cel_0 tc ad R⟩) rfl rfl rfl (Nat.le_of_ble_eq_true rfl) ⟨Nat.le_of_ble_eq_true rfl, Nat.le_of_ble_eq_true rfl⟩ ⟨Nat.zero_le _, Nat.zero_le _⟩ dL_isCanal_123 (fun r222 M221 h => ?_)
      refine ra_istore (L' := [(5, _), (0, _), (1, _), (2, _), (3, _), (4, _)]) E dL_isCanal_126 (by decide) rfl ?_
      refine ra_iload E dL_isCanal_128 0 rfl ?_
      refine ra_if_ge (tgt := 136) E dL_isCanal_130 (by decide) (fun q223 => ?_) (fun q223 => ?_)
      · replace h := h.1 q223
        refine ra_iinc1 (L' := [(2, _), (5, _), (0, _), (1, _), (3, _), (4, _)]) E dL_isCanal_136 3 rfl (by decide) rfl ?_
        refine ra_aload_n E dL_isCanal_139 rfl 2 rfl ?_
        refine ra_iload E dL_isCanal_140 5 rfl ?_
        refine ra_callIV (rest := []) E (c_X12_lockWait _ _ _ h) (lq_X12 _) cv_X12_lockWait ml_L_108 (by decide) (lm (by decide)) (fun R => ⟨_, cel_0 tc ad R⟩) rfl rfl rfl (Nat.le_of_ble_eq_true rfl) ⟨Nat.le_of_ble_eq_true rfl, Nat.le_of_ble_eq_true rfl⟩ ⟨Nat.zero_le _, Nat.zero_le _⟩ dL_isCanal_142 (fun r225 M224 h => ?_)
        refine ra_if_eq (tgt := 242) E dL_isCanal_145 (by decide) (fun q226 => ?_) (fun q226 => ?_)
        · replace h := h.1 q226
          refine ra_iconst E dL_isCanal_242 ki_0 ?_
          exact ra_zret E hr rfl dL_isCanal_243 ⟨Or.inl rfl, h⟩
        · replace h := h.2 q226
          refine ra_aload_n E dL_isCanal_148 rfl 2 rfl ?_
          refine ra_iload E dL_isCanal_149 1 rfl ?_
          refine ra_callIV (rest := []) E (c_X12_timeInLock _ _ _ h) (lq_X12 _) cv_X12_timeInLock ml_L_58 (by decide) (lm (by decide)) (fun R => ⟨_, cel_0 tc ad R⟩) rfl rfl rfl (Nat.le_of_ble_eq_true rfl) ⟨Nat.le_of_ble_eq_true rfl, Nat.le_of_ble_eq_true rfl⟩ ⟨Nat.zero_le _, Nat.zero_le _⟩ dL_isCanal_151 (fun r228 M227 h => ?_)
          refine ra_iconst E dL_isCanal_154 ki_1 ?_
          refine ra_icmp_lt (tgt := 242) E dL_isCanal_155 (by decide) (fun q229 => ?_) (fun q229 => ?_)
          · replace h := h.1 q229
            refine ra_iconst E dL_isCanal_242 ki_0 ?_
            exact ra_zret E hr rfl dL_isCanal_243 ⟨Or.inl rfl, h⟩
          · replace h := h.2 q229
            refine ra_aload_n E dL_isCanal_158 rfl 2 rfl ?_
            refine ra_iload E dL_isCanal_159 1 rfl ?_
            refine ra_callIV (rest := []) E (c_X12_timeInLock _ _ _ h) (lq_X12 _) cv_X12_timeInLock ml_L_58 (by decide) (lm (by decide)) (fun R => ⟨_, cel_0 tc ad R⟩) rfl rfl rfl (Nat.le_of_ble_eq_true rfl) ⟨Nat.le_of_ble_eq_true rfl, Nat.le_of_ble_eq_true rfl⟩ ⟨Nat.zero_le _, Nat.zero_le _⟩ dL_isCanal_161 (fun r231 M230 h => ?_)
            refine ra_aload_n E dL_isCanal_164 rfl 2 rfl ?_
            refine ra_iload E dL_isCanal_165 5 rfl ?_
            refine ra_callIV (rest := [_]) E (c_X12_lockWait _ _ _ h) (lq_X12 _) cv_X12_lockWait ml_L_108 (by decide) (lm (by decide)) (fun R => ⟨_, cel_0 tc ad R⟩) rfl rfl rfl (Nat.le_of_ble_eq_true rfl) ⟨Nat.le_of_ble_eq_true rfl, Nat.le_of_ble_eq_true rfl⟩ ⟨Nat.zero_le _, Nat.zero_le _⟩ dL_isCanal_167 (fun r233 M232 h => ?_)
            refine ra_icmp_gt (tgt := 242) E dL_isCanal_170 (by decide) (fun q234 => ?_) (fun q234 => ?_)
            · replace h := h.1 q234
              refine ra_iconst E dL_isCanal_242 ki_0 ?_
              exact ra_zret E hr rfl dL_isCanal_243 ⟨Or.inl rfl, h⟩
            · replace h := h.2 q234
              refine ra_aload_n E dL_isCanal_173 rfl 2 rfl ?_
              refine ra_iload E dL_isCanal_174 1 rfl ?_
              refine ra_callIV (rest := []) E (c_X12_targetOf _ _ _ h) (lq_X12 _) cv_X12_targetOf ml_L_55 (by decide) (lm (by decide)) (fun R => ⟨_, cel_0 tc ad R⟩) rfl rfl rfl (Nat.le_of_ble_eq_true rfl) ⟨Nat.le_of_ble_eq_true rfl, Nat.le_of_ble_eq_true rfl⟩ ⟨Nat.zero_le _, Nat.zero_le _⟩ dL_isCanal_176 (fun r236 M235 h => ?_)
              refine ra_aload_n E dL_isCanal_179 rfl 2 rfl ?_
              refine ra_iload E dL_isCanal_180 1 rfl ?_
              refine ra_callIV (rest := [_]) E (c_X12_placeOf _ _ _ h) (lq_X12 _) cv_X12_placeOf ml_L_51 (by decide) (lm (by decide)) (fun R => ⟨_, cel_0 tc ad R⟩) rfl rfl rfl (Nat.le_of_ble_eq_true rfl) ⟨Nat.le_of_ble_eq_true rfl, Nat.le_of_ble_eq_true rfl⟩ ⟨Nat.zero_le _, Nat.zero_le _⟩ dL_isCanal_182 (fun r238 M237 h => ?_)
              refine ra_icmp_le (tgt := 199) E dL_isCanal_185 (by decide) (fun q239 => ?_) (fun q239 => ?_)
              · replace h := h.1 q239
                exact ra_sub (L' := [(0, _), (1, _), (2, _), (3, _), (4, _), (5, _)]) [2, 3, 0, 4, 5, 1] rfl (l_L_isCanal_L199 E hr ih _ _ _ _ _ _ h)
              · replace h := h.2 q239
                refine ra_aload_n E dL_isCanal_188 rfl 2 rfl ?_
                refine ra_iload E dL_isCanal_189 1 rfl ?_
                refine ra_callIV (rest := []) E (c_X12_placeOf _ _ _ h) (lq_X12 _) cv_X12_placeOf ml_L_51 (by decide) (lm (by decide)) (fun R => ⟨_, cel_0 tc ad R⟩) rfl rfl rfl (Nat.le_of_ble_eq_true rfl) ⟨Nat.le_of_ble_eq_true rfl, Nat.le_of_ble_eq_true rfl⟩ ⟨Nat.zero_le _, Nat.zero_le _⟩ dL_isCanal_191 (fun r254 M253 h => ?_)
                refine ra_iload E dL_isCanal_194 5 rfl ?_
                refine ra_icmp_ne (tgt := 242) E dL_isCanal_196 (by decide) (fun q255 => ?_) (fun q255 => ?_)
                · replace h := h.1 q255
                  refine ra_iconst E dL_isCanal_242 ki_0 ?_
                  exact ra_zret E hr rfl dL_isCanal_243 ⟨Or.inl rfl, h⟩
                · replace h := h.2 q255
                  exact ra_sub (L' := [(0, _), (1, _), (2, _), (3, _), (4, _), (5, _)]) [2, 3, 0, 4, 5, 1] rfl (l_L_isCanal_L199 E hr ih _ _ _ _ _ _ h)
      · replace h := h.2 q223
        refine ra_goto (tgt := 244) E dL_isCanal_133 (by decide) ?_
        refine ra_iinc1 (L' := [(4, _), (5, _), (0, _), (1, _), (2, _), (3, _)]) E dL_isCanal_244 5 rfl (by decide) rfl ?_
        refine ra_goto (tgt := 109) E dL_isCanal_247 (by decide) ?_
        exact ra_sub (L' := [(0, _), (1, _), (2, _), (3, _), (4, _)]) [2, 3, 4, 5, 0] rfl (ih _ _ _ _ _ h)
def f_L_isCanal_L9  (K : Int32 → TM → Prop) : Nat → Int32 → Int32 → Int32 → Int32 → TM → Prop
  | 0, _, _, _, _, _ => False
  | n + 1, x1, x2, x3, x4, M => f_X12_placeCount M (fun r2 M1 => ((r2 ≤ x4 → ∃ n109, f_L_isCanal_L109 K n109 x1 x2 x3 (0 : Int32) M1) ∧ (¬ r2 ≤ x4 → f_X12_bargesAt x4 M1 (fun r258 M257 => f_X12_ordersAt x4 M257 (fun r260 M259 => f_X12_journeyTime x4 x4 M259 (fun r262 M261 => ((¬ r262 = 0 → K (0 : Int32) M261) ∧ (r262 = 0 → f_X12_journeyTime (0 : Int32) x4 M261 (fun r265 M264 => f_X12_placeCount M264 (fun r267 M266 => f_X12_journeyTime x4 (r267 - (1 : Int32)) M266 (fun r269 M268 => f_X12_placeCount M268 (fun r271 M270 => f_X12_journeyTime (0 : Int32) (r271 - (1 : Int32)) M270 (fun r273 M272 => ((¬ (r265 + r269) = r273 → K (0 : Int32) M272) ∧ ((r265 + r269) = r273 → f_X12_journeyTime x4 (0 : Int32) M272 (fun r276 M275 => f_X12_journeyTime (0 : Int32) x4 M275 (fun r278 M277 => ((r276 = r278 → f_L_isCanal_L9 K n (x1 + r258) x2 (x3 + r260) (x4 + 1) M277) ∧ (¬ r276 = r278 → K (0 : Int32) M277)))))))))))))))))))
set_option maxRecDepth 100000 in
set_option maxHeartbeats 4000000 in
theorem l_L_isCanal_L9 {p : Program} {l : Launch} {e : Env} {s : State} {m : MethodId} {args : Array Value} {below : List Frame} {meth : Method} {c : Code} {D : va_G} {tc : Nat → ClassId} {ad : Nat → Nat}  {K : Int32 → TM → Prop} (E : Ev p s m args meth c D tc ad RL cL_isCanal 16) (hr : meth.sig.returnType = (some .boolean)) : ∀ (n : Nat) (x1 : Int32) (x2 : Int32) (x3 : Int32) (x4 : Int32) (M : TM) , f_L_isCanal_L9  K n x1 x2 x3 x4 M → Wa p l e (rmD 5) s m args below meth c 0 0 (MQ below (va_Qi (fun r M' => (r = 0 ∨ r = 1) ∧ K r M') (EndW D tc ad) (A0 ad s.heap.size)) args s 0 0 (A0 ad s.heap.size)) D tc ad 16 M 9 [(0, .ref (ad 0)), (1, .int x1), (2, .int x2), (3, .int x3), (4, .int x4)] [] := by
  intro n
  induction n with
  | zero => intro x1 x2 x3 x4 M  h; exact h.elim
  | succ n ih =>
    intro x1 x2 x3 x4 M  h
    unfold f_L_isCanal_L9 at h
    refine ra_iload E dL_isCanal_9 4 rfl ?_
    refine ra_aload_n E dL_isCanal_11 rfl 0 rfl ?_
    refine ra_callIV (rest := [_]) E (c_X12_placeCount _ _ h) (lq_X12 _) cv_X12_placeCount ml_L_36 (by decide) (lm (by decide)) (fun R => ⟨_, cel_0 tc ad R⟩) rfl rfl rfl (Nat.le_of_ble_eq_true rfl) ⟨Nat.le_of_ble_eq_true rfl, Nat.le_of_ble_eq_true rfl⟩ ⟨Nat.zero_le _, Nat.zero_le _⟩ dL_isCanal_12 (fun r2 M1 h => ?_)
    refine ra_icmp_ge (tgt := 106) E dL_isCanal_15 (by decide) (fun q3 => ?_) (fun q3 => ?_)
    · replace h := h.1 q3
      refine ra_iconst E dL_isCanal_106 ki_0 ?_
      refine ra_istore (L' := [(4, _), (0, _), (1, _), (2, _), (3, _)]) E dL_isCanal_107 (by decide) rfl ?_
      obtain ⟨n256, h⟩ := h
      exact ra_sub (L' := [(0, _), (1, _), (2, _), (3, _), (4, _)]) [1, 2, 3, 4, 0] rfl (l_L_isCanal_L109 E hr n256 _ _ _ _ _ h)
    · replace h := h.2 q3
      refine ra_iload_n E dL_isCanal_18 rfl 1 rfl ?_
      refine ra_aload_n E dL_isCanal_19 rfl 0 rfl ?_
      refine ra_iload E dL_isCanal_20 4 rfl ?_
      refine ra_callIV (rest := [_]) E (c_X12_bargesAt _ _ _ h) (lq_X12 _) cv_X12_bargesAt ml_L_96 (by decide) (lm (by decide)) (fun R => ⟨_, cel_0 tc ad R⟩) rfl rfl rfl (Nat.le_of_ble_eq_true rfl) ⟨Nat.le_of_ble_eq_true rfl, Nat.le_of_ble_eq_true rfl⟩ ⟨Nat.zero_le _, Nat.zero_le _⟩ dL_isCanal_22 (fun r258 M257 h => ?_)
      refine ra_iadd E dL_isCanal_25 ?_
      refine ra_istore_n (L' := [(1, _), (0, _), (2, _), (3, _), (4, _)]) E dL_isCanal_26 rfl (by decide) rfl ?_
      refine ra_iload_n E dL_isCanal_27 rfl 3 rfl ?_
      refine ra_aload_n E dL_isCanal_28 rfl 1 rfl ?_
      refine ra_iload E dL_isCanal_29 4 rfl ?_
      refine ra_callIV (rest := [_]) E (c_X12_ordersAt _ _ _ h) (lq_X12 _) cv_X12_ordersAt ml_L_99 (by decide) (lm (by decide)) (fun R => ⟨_, cel_0 tc ad R⟩) rfl rfl rfl (Nat.le_of_ble_eq_true rfl) ⟨Nat.le_of_ble_eq_true rfl, Nat.le_of_ble_eq_true rfl⟩ ⟨Nat.zero_le _, Nat.zero_le _⟩ dL_isCanal_31 (fun r260 M259 h => ?_)
      refine ra_iadd E dL_isCanal_34 ?_
      refine ra_istore_n (L' := [(3, _), (1, _), (0, _), (2, _), (4, _)]) E dL_isCanal_35 rfl (by decide) rfl ?_
      refine ra_aload_n E dL_isCanal_36 rfl 2 rfl ?_
      refine ra_iload E dL_isCanal_37 4 rfl ?_
      refine ra_iload E dL_isCanal_39 4 rfl ?_
      refine ra_callIV (rest := []) E (c_X12_journeyTime _ _ _ _ h) (lq_X12 _) cv_X12_journeyTime ml_L_102 (by decide) (lm (by decide)) (fun R => ⟨_, cel_0 tc ad R⟩) rfl rfl rfl (Nat.le_of_ble_eq_true rfl) ⟨Nat.le_of_ble_eq_true rfl, Nat.le_of_ble_eq_true rfl⟩ ⟨Nat.zero_le _, Nat.zero_le _⟩ dL_isCanal_41 (fun r262 M261 h => ?_)
      refine ra_if_ne (tgt := 98) E dL_isCanal_44 (by decide) (fun q263 => ?_) (fun q263 => ?_)
      · replace h := h.1 q263
        refine ra_iconst E dL_isCanal_98 ki_0 ?_
        exact ra_zret E hr rfl dL_isCanal_99 ⟨Or.inl rfl, h⟩
      · replace h := h.2 q263
        refine ra_aload_n E dL_isCanal_47 rfl 2 rfl ?_
        refine ra_iconst E dL_isCanal_48 ki_0 ?_
        refine ra_iload E dL_isCanal_49 4 rfl ?_
        refine ra_callIV (rest := []) E (c_X12_journeyTime _ _ _ _ h) (lq_X12 _) cv_X12_journeyTime ml_L_102 (by decide) (lm (by decide)) (fun R => ⟨_, cel_0 tc ad R⟩) rfl rfl rfl (Nat.le_of_ble_eq_true rfl) ⟨Nat.le_of_ble_eq_true rfl, Nat.le_of_ble_eq_true rfl⟩ ⟨Nat.zero_le _, Nat.zero_le _⟩ dL_isCanal_51 (fun r265 M264 h => ?_)
        refine ra_aload_n E dL_isCanal_54 rfl 2 rfl ?_
        refine ra_iload E dL_isCanal_55 4 rfl ?_
        refine ra_aload_n E dL_isCanal_57 rfl 2 rfl ?_
        refine ra_callIV (rest := [_, _, _]) E (c_X12_placeCount _ _ h) (lq_X12 _) cv_X12_placeCount ml_L_36 (by decide) (lm (by decide)) (fun R => ⟨_, cel_0 tc ad R⟩) rfl rfl rfl (Nat.le_of_ble_eq_true rfl) ⟨Nat.le_of_ble_eq_true rfl, Nat.le_of_ble_eq_true rfl⟩ ⟨Nat.zero_le _, Nat.zero_le _⟩ dL_isCanal_58 (fun r267 M266 h => ?_)
        refine ra_iconst E dL_isCanal_61 ki_1 ?_
        refine ra_isub E dL_isCanal_62 ?_
        refine ra_callIV (rest := [_]) E (c_X12_journeyTime _ _ _ _ h) (lq_X12 _) cv_X12_journeyTime ml_L_102 (by decide) (lm (by decide)) (fun R => ⟨_, cel_0 tc ad R⟩) rfl rfl rfl (Nat.le_of_ble_eq_true rfl) ⟨Nat.le_of_ble_eq_true rfl, Nat.le_of_ble_eq_true rfl⟩ ⟨Nat.zero_le _, Nat.zero_le _⟩ dL_isCanal_63 (fun r269 M268 h => ?_)
        refine ra_iadd E dL_isCanal_66 ?_
        refine ra_aload_n E dL_isCanal_67 rfl 2 rfl ?_
        refine ra_iconst E dL_isCanal_68 ki_0 ?_
        refine ra_aload_n E dL_isCanal_69 rfl 2 rfl ?_
        refine ra_callIV (rest := [_, _, _]) E (c_X12_placeCount _ _ h) (lq_X12 _) cv_X12_placeCount ml_L_36 (by decide) (lm (by decide)) (fun R => ⟨_, cel_0 tc ad R⟩) rfl rfl rfl (Nat.le_of_ble_eq_true rfl) ⟨Nat.le_of_ble_eq_true rfl, Nat.le_of_ble_eq_true rfl⟩ ⟨Nat.zero_le _, Nat.zero_le _⟩ dL_isCanal_70 (fun r271 M270 h => ?_)
        refine ra_iconst E dL_isCanal_73 ki_1 ?_
        refine ra_isub E dL_isCanal_74 ?_
        refine ra_callIV (rest := [_]) E (c_X12_journeyTime _ _ _ _ h) (lq_X12 _) cv_X12_journeyTime ml_L_102 (by decide) (lm (by decide)) (fun R => ⟨_, cel_0 tc ad R⟩) rfl rfl rfl (Nat.le_of_ble_eq_true rfl) ⟨Nat.le_of_ble_eq_true rfl, Nat.le_of_ble_eq_true rfl⟩ ⟨Nat.zero_le _, Nat.zero_le _⟩ dL_isCanal_75 (fun r273 M272 h => ?_)
        refine ra_icmp_ne (tgt := 98) E dL_isCanal_78 (by decide) (fun q274 => ?_) (fun q274 => ?_)
        · replace h := h.1 q274
          refine ra_iconst E dL_isCanal_98 ki_0 ?_
          exact ra_zret E hr rfl dL_isCanal_99 ⟨Or.inl rfl, h⟩
        · replace h := h.2 q274
          refine ra_aload_n E dL_isCanal_81 rfl 2 rfl ?_
          refine ra_iload E dL_isCanal_82 4 rfl ?_
          refine ra_iconst E dL_isCanal_84 ki_0 ?_
          refine ra_callIV (rest := []) E (c_X12_journeyTime _ _ _ _ h) (lq_X12 _) cv_X12_journeyTime ml_L_102 (by decide) (lm (by decide)) (fun R => ⟨_, cel_0 tc ad R⟩) rfl rfl rfl (Nat.le_of_ble_eq_true rfl) ⟨Nat.le_of_ble_eq_true rfl, Nat.le_of_ble_eq_true rfl⟩ ⟨Nat.zero_le _, Nat.zero_le _⟩ dL_isCanal_85 (fun r276 M275 h => ?_)
          refine ra_aload_n E dL_isCanal_88 rfl 2 rfl ?_
          refine ra_iconst E dL_isCanal_89 ki_0 ?_
          refine ra_iload E dL_isCanal_90 4 rfl ?_
          refine ra_callIV (rest := [_]) E (c_X12_journeyTime _ _ _ _ h) (lq_X12 _) cv_X12_journeyTime ml_L_102 (by decide) (lm (by decide)) (fun R => ⟨_, cel_0 tc ad R⟩) rfl rfl rfl (Nat.le_of_ble_eq_true rfl) ⟨Nat.le_of_ble_eq_true rfl, Nat.le_of_ble_eq_true rfl⟩ ⟨Nat.zero_le _, Nat.zero_le _⟩ dL_isCanal_92 (fun r278 M277 h => ?_)
          refine ra_icmp_eq (tgt := 100) E dL_isCanal_95 (by decide) (fun q279 => ?_) (fun q279 => ?_)
          · replace h := h.1 q279
            refine ra_iinc1 (L' := [(4, _), (3, _), (1, _), (0, _), (2, _)]) E dL_isCanal_100 4 rfl (by decide) rfl ?_
            refine ra_goto (tgt := 9) E dL_isCanal_103 (by decide) ?_
            exact ra_sub (L' := [(0, _), (1, _), (2, _), (3, _), (4, _)]) [3, 2, 4, 1, 0] rfl (ih _ _ _ _ _ h)
          · replace h := h.2 q279
            refine ra_iconst E dL_isCanal_98 ki_0 ?_
            exact ra_zret E hr rfl dL_isCanal_99 ⟨Or.inl rfl, h⟩
def f_L_isCanal  (M : TM) (K : Int32 → TM → Prop) : Prop := ∃ n9, f_L_isCanal_L9 K n9 (0 : Int32) (0 : Int32) (0 : Int32) (0 : Int32) M
set_option maxRecDepth 100000 in
set_option maxHeartbeats 4000000 in
theorem c_L_isCanal {ad : Nat → Nat}  (M : TM) (K : Int32 → TM → Prop) (h : f_L_isCanal  M K) : MI yL_isCanal cL_isCanal 16 (some .boolean) 5 ad [.ref (ad 0)] M (fun r M' => (r = 0 ∨ r = 1) ∧ K r M') := by
  refine MI_of RL rfl (by decide +kernel) (Nat.le_of_ble_eq_true rfl) (fun p l e s m below meth c D tc E hr => ?_)
  unfold f_L_isCanal at h
  refine ra_iconst E dL_isCanal_0 ki_0 ?_
  refine ra_istore_n (L' := [(1, _), (0, _)]) E dL_isCanal_1 rfl (by decide) rfl ?_
  refine ra_iconst E dL_isCanal_2 ki_0 ?_
  refine ra_istore_n (L' := [(2, _), (1, _), (0, _)]) E dL_isCanal_3 rfl (by decide) rfl ?_
  refine ra_iconst E dL_isCanal_4 ki_0 ?_
  refine ra_istore_n (L' := [(3, _), (2, _), (1, _), (0, _)]) E dL_isCanal_5 rfl (by decide) rfl ?_
  refine ra_iconst E dL_isCanal_6 ki_0 ?_
  refine ra_istore (L' := [(4, _), (3, _), (2, _), (1, _), (0, _)]) E dL_isCanal_7 (by decide) rfl ?_
  obtain ⟨n280, h⟩ := h
  exact ra_sub (L' := [(0, _), (1, _), (2, _), (3, _), (4, _)]) [4, 3, 2, 1, 0] rfl (l_L_isCanal_L9 E hr n280 _ _ _ _ _ h)
