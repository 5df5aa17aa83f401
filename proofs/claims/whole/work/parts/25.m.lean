def f_X5_takeBack_L46 (a1 : Nat) (K : TM → Prop) (z0 : Int32) (M : TM) : Prop := ∀ M3, M3 = u2 M 25 1 z0 → vp_in (M3 25 1) 8 ∧ f_X2_copyFrom a1 (27 + 61 * (M3 25 1).toNatClampNeg) M3 (fun M5 => ∀ M6, M6 = u2 M5 25 2 ((M5 25 2) - (1 : Int32)) → K M6)
set_option maxRecDepth 100000 in
set_option maxHeartbeats 4000000 in
theorem l_X5_takeBack_L46 {p : Program} {l : Launch} {e : Env} {s : State} {m : MethodId} {args : Array Value} {below : List Frame} {meth : Method} {c : Code} {D : va_G} {tc : Nat → ClassId} {ad : Nat → Nat} (a1 : Nat) (h1 : IsCanal a1) {K : TM → Prop} (E : Ev p s m args meth c D tc ad RX5 cX5_takeBack 2) (hr : meth.sig.returnType = none) : ∀ (z0 : Int32) (M : TM) , f_X5_takeBack_L46 a1 K z0 M → Wa p l e (rmD 3) s m args below meth c 0 0 (MQ below (va_Qv K (EndW D tc ad) (A0 ad s.heap.size)) args s 0 0 (A0 ad s.heap.size)) D tc ad 2 M 46 [(0, .ref (ad 25)), (1, .ref (ad a1))] [.int z0, .ref (ad 25)] := by
  intro z0 M  h
  unfold f_X5_takeBack_L46 at h
  refine pf_X5_1 E fl_X5_17 dX5_takeBack_46 ?_
  replace h := h _ rfl
  refine ra_aload_n E dX5_takeBack_49 rfl 1 rfl ?_
  refine ra_aload_n E dX5_takeBack_50 rfl 0 rfl ?_
  refine gf_X5_0 E fl_X5_11 dX5_takeBack_51 ?_
  refine ra_aload_n E dX5_takeBack_54 rfl 0 rfl ?_
  refine gf_X5_1 E fl_X5_17 dX5_takeBack_55 ?_
  obtain ⟨g4, h⟩ := h
  refine ra_aald E (lm (by decide)) (cel_26 tc ad) rfl g4 dX5_takeBack_58 ?_
  refine ra_callVV (rest := []) E (c_X2_copyFrom _ h1 _ (isRing_of g4) _ _ h) (lq_X2 _) cv_X2_copyFrom ml_X5_25 (by decide) (lm (h1.add (j := 0) (by decide))) (fun R => ⟨_, cel_canal tc ad h1 R⟩) rfl rfl rfl (Nat.le_of_ble_eq_true rfl) ⟨Nat.le_of_ble_eq_true rfl, Nat.le_of_ble_eq_true rfl⟩ ⟨Nat.zero_le _, Nat.zero_le _⟩ dX5_takeBack_59 (fun M5 h => ?_)
  refine ra_aload_n E dX5_takeBack_62 rfl 0 rfl ?_
  refine ra_dup E dX5_takeBack_63 rfl ?_
  refine gf_X5_2 E fl_X5_21 dX5_takeBack_64 ?_
  refine ra_iconst E dX5_takeBack_67 ki_1 ?_
  refine ra_isub E dX5_takeBack_68 ?_
  refine pf_X5_2 E fl_X5_21 dX5_takeBack_69 ?_
  replace h := h _ rfl
  exact ra_vret E hr dX5_takeBack_72 h
def f_X5_takeBack_L30 (a1 : Nat) (K : TM → Prop)  (M : TM) : Prop := f_X5_takeBack_L46 a1 K ((8 : Int32) - (1 : Int32)) M
set_option maxRecDepth 100000 in
set_option maxHeartbeats 4000000 in
theorem l_X5_takeBack_L30 {p : Program} {l : Launch} {e : Env} {s : State} {m : MethodId} {args : Array Value} {below : List Frame} {meth : Method} {c : Code} {D : va_G} {tc : Nat → ClassId} {ad : Nat → Nat} (a1 : Nat) (h1 : IsCanal a1) {K : TM → Prop} (E : Ev p s m args meth c D tc ad RX5 cX5_takeBack 2) (hr : meth.sig.returnType = none) : ∀  (M : TM) , f_X5_takeBack_L30 a1 K  M → Wa p l e (rmD 3) s m args below meth c 0 0 (MQ below (va_Qv K (EndW D tc ad) (A0 ad s.heap.size)) args s 0 0 (A0 ad s.heap.size)) D tc ad 2 M 30 [(0, .ref (ad 25)), (1, .ref (ad a1))] [.ref (ad 25)] := by
  intro  M  h
  unfold f_X5_takeBack_L30 at h
  refine ra_aload_n E dX5_takeBack_30 rfl 0 rfl ?_
  refine gf_X5_0 E fl_X5_11 dX5_takeBack_31 ?_
  refine ra_alen (n := 8) (v := 8) E (lm (by decide)) (fun R => ⟨_, (cel_26 tc ad) R, rfl⟩) rfl (by decide) dX5_takeBack_34 ?_
  refine ra_iconst E dX5_takeBack_35 ki_1 ?_
  refine ra_isub E dX5_takeBack_36 ?_
  refine ra_goto (tgt := 46) E dX5_takeBack_37 (by decide) ?_
  exact ra_sub (L' := [(0, _), (1, _)]) [0, 1] rfl (l_X5_takeBack_L46 a1 h1 E hr _ _ h)
def f_X5_takeBack (a1 : Nat) (M : TM) (K : TM → Prop) : Prop := (((1 : Int32) ≤ (M 25 2) → (((M 25 1) < (1 : Int32) → f_X5_takeBack_L30 a1 K M) ∧ (¬ (M 25 1) < (1 : Int32) → (((M 25 1) ≤ (8 : Int32) → f_X5_takeBack_L46 a1 K ((M 25 1) - (1 : Int32)) M) ∧ (¬ (M 25 1) ≤ (8 : Int32) → f_X5_takeBack_L30 a1 K M))))) ∧ (¬ (1 : Int32) ≤ (M 25 2) → K M))
set_option maxRecDepth 100000 in
set_option maxHeartbeats 4000000 in
theorem c_X5_takeBack {ad : Nat → Nat} (a1 : Nat) (h1 : IsCanal a1) (M : TM) (K : TM → Prop) (h : f_X5_takeBack a1 M K) : MV yX5_takeBack cX5_takeBack 2 3 ad [.ref (ad 25), .ref (ad a1)] M K := by
  refine MV_of RX5 rfl (by decide +kernel) (Nat.le_of_ble_eq_true rfl) (fun p l e s m below meth c D tc E hr => ?_)
  unfold f_X5_takeBack at h
  refine ra_aload_n E dX5_takeBack_0 rfl 0 rfl ?_
  refine gf_X5_2 E fl_X5_21 dX5_takeBack_1 ?_
  refine ra_iconst E dX5_takeBack_4 ki_1 ?_
  refine ra_icmp_ge (tgt := 9) E dX5_takeBack_5 (by decide) (fun q1 => ?_) (fun q1 => ?_)
  · replace h := h.1 q1
    refine ra_aload_n E dX5_takeBack_9 rfl 0 rfl ?_
    refine ra_aload_n E dX5_takeBack_10 rfl 0 rfl ?_
    refine gf_X5_1 E fl_X5_17 dX5_takeBack_11 ?_
    refine ra_iconst E dX5_takeBack_14 ki_1 ?_
    refine ra_icmp_lt (tgt := 30) E dX5_takeBack_15 (by decide) (fun q2 => ?_) (fun q2 => ?_)
    · replace h := h.1 q2
      exact ra_sub (L' := [(0, _), (1, _)]) [0, 1] rfl (l_X5_takeBack_L30 a1 h1 E hr _ h)
    · replace h := h.2 q2
      refine ra_aload_n E dX5_takeBack_18 rfl 0 rfl ?_
      refine gf_X5_1 E fl_X5_17 dX5_takeBack_19 ?_
      refine ra_aload_n E dX5_takeBack_22 rfl 0 rfl ?_
      refine gf_X5_0 E fl_X5_11 dX5_takeBack_23 ?_
      refine ra_alen (n := 8) (v := 8) E (lm (by decide)) (fun R => ⟨_, (cel_26 tc ad) R, rfl⟩) rfl (by decide) dX5_takeBack_26 ?_
      refine ra_icmp_le (tgt := 40) E dX5_takeBack_27 (by decide) (fun q7 => ?_) (fun q7 => ?_)
      · replace h := h.1 q7
        refine ra_aload_n E dX5_takeBack_40 rfl 0 rfl ?_
        refine gf_X5_1 E fl_X5_17 dX5_takeBack_41 ?_
        refine ra_iconst E dX5_takeBack_44 ki_1 ?_
        refine ra_isub E dX5_takeBack_45 ?_
        exact ra_sub (L' := [(0, _), (1, _)]) [0, 1] rfl (l_X5_takeBack_L46 a1 h1 E hr _ _ h)
      · replace h := h.2 q7
        exact ra_sub (L' := [(0, _), (1, _)]) [0, 1] rfl (l_X5_takeBack_L30 a1 h1 E hr _ h)
  · replace h := h.2 q1
    exact ra_vret E hr dX5_takeBack_8 h
def f_X6_reset (a0 : Nat) (p1 : Int32) (p2 : Int32) (p3 : Int32) (p4 : Int32) (M : TM) (K : TM → Prop) : Prop := ∀ M1, M1 = u2 M a0 0 p1 → ∀ M2, M2 = u2 M1 a0 1 p2 → ∀ M3, M3 = u2 M2 a0 2 p3 → ∀ M4, M4 = u2 M3 a0 4 p4 → f_X6_open a0 M4 (fun M5 => K M5)
set_option maxRecDepth 100000 in
set_option maxHeartbeats 4000000 in
theorem c_X6_reset {ad : Nat → Nat} (a0 : Nat) (h0 : IsOrder a0) (p1 : Int32) (p2 : Int32) (p3 : Int32) (p4 : Int32) (M : TM) (K : TM → Prop) (h : f_X6_reset a0 p1 p2 p3 p4 M K) : MV yX6_reset cX6_reset 5 1 ad [.ref (ad a0), .int p1, .int p2, .int p3, .int p4] M K := by
  refine MV_of RX6 rfl (by decide +kernel) (Nat.le_of_ble_eq_true rfl) (fun p l e s m below meth c D tc E hr => ?_)
  unfold f_X6_reset at h
  refine ra_aload_n E dX6_reset_0 rfl 0 rfl ?_
  refine ra_iload_n E dX6_reset_1 rfl 1 rfl ?_
  refine pf_X6_0 E h0 fl_X6_9 dX6_reset_2 ?_
  replace h := h _ rfl
  refine ra_aload_n E dX6_reset_5 rfl 0 rfl ?_
  refine ra_iload_n E dX6_reset_6 rfl 2 rfl ?_
  refine pf_X6_1 E h0 fl_X6_15 dX6_reset_7 ?_
  replace h := h _ rfl
  refine ra_aload_n E dX6_reset_10 rfl 0 rfl ?_
  refine ra_iload_n E dX6_reset_11 rfl 3 rfl ?_
  refine pf_X6_2 E h0 fl_X6_18 dX6_reset_12 ?_
  replace h := h _ rfl
  refine ra_aload_n E dX6_reset_15 rfl 0 rfl ?_
  refine ra_iload E dX6_reset_16 4 rfl ?_
  refine pf_X6_4 E h0 fl_X6_24 dX6_reset_18 ?_
  replace h := h _ rfl
  refine ra_aload_n E dX6_reset_21 rfl 0 rfl ?_
  refine ra_callVV (rest := []) E (c_X6_open _ h0 _ _ h) (lq_X6 _) cv_X6_open ml_X6_43 (by decide) (lm h0.lt) (fun R => ⟨_, cel_order tc ad h0 R⟩) rfl rfl rfl (Nat.le_of_ble_eq_true rfl) ⟨Nat.le_of_ble_eq_true rfl, Nat.le_of_ble_eq_true rfl⟩ ⟨Nat.zero_le _, Nat.zero_le _⟩ dX6_reset_22 (fun M5 h => ?_)
  exact ra_vret E hr dX6_reset_25 h
def f_X8_isPossible (a0 : Nat) (a1 : Nat) (M : TM) (K : Int32 → TM → Prop) : Prop := vp_in (M a1 0) 9 ∧ vp_in (M a1 0) 9 ∧ ((((M a1 0) + 1) = 1 → f_X2_canSail a0 (M a1 1) (M a1 2) M (fun r5 M4 => K r5 M4)) ∧ (((M a1 0) + 1) = 2 → f_X2_canAddOrder a0 (M a1 1) M (fun r8 M7 => K r8 M7)) ∧ (((M a1 0) + 1) = 3 → f_X2_canGive a0 (M a1 1) (M a1 2) M (fun r11 M10 => K r11 M10)) ∧ (((M a1 0) + 1) = 4 → f_X2_canReopen a0 (M a1 1) M (fun r14 M13 => K r14 M13)) ∧ (((M a1 0) + 1) = 5 → f_X2_canLoadFlour a0 (M a1 1) (M a1 2) M (fun r17 M16 => K r17 M16)) ∧ (((M a1 0) + 1) = 6 → f_X2_canGather a0 (M a1 1) M (fun r20 M19 => K r20 M19)) ∧ (((M a1 0) + 1) = 7 → f_X2_isInHarbor a0 (M a1 1) M (fun r23 M22 => K r23 M22)) ∧ (((M a1 0) + 1) = 8 → f_X2_canPass a0 (M a1 1) M (fun r26 M25 => K r26 M25)) ∧ (¬ ((M a1 0) + 1) = 1 → ¬ ((M a1 0) + 1) = 2 → ¬ ((M a1 0) + 1) = 3 → ¬ ((M a1 0) + 1) = 4 → ¬ ((M a1 0) + 1) = 5 → ¬ ((M a1 0) + 1) = 6 → ¬ ((M a1 0) + 1) = 7 → ¬ ((M a1 0) + 1) = 8 → K (0 : Int32) M))
set_option maxRecDepth 100000 in
set_option maxHeartbeats 4000000 in
theorem c_X8_isPossible {ad : Nat → Nat} (a0 : Nat) (h0 : IsCanal a0) (a1 : Nat) (h1 : IsCmd a1) (M : TM) (K : Int32 → TM → Prop) (h : f_X8_isPossible a0 a1 M K) : MI yX8_isPossible cX8_isPossible 2 (some .boolean) 4 ad [.ref (ad a0), .ref (ad a1)] M (fun r M' => (r = 0 ∨ r = 1) ∧ K r M') := by
  refine MI_of RX8 rfl (by decide +kernel) (Nat.le_of_ble_eq_true rfl) (fun p l e s m below meth c D tc E hr => ?_)
  unfold f_X8_isPossible at h
  refine gs_smap E fl_X8_85 dX8_isPossible_0 ?_
  refine ra_aload_n E dX8_isPossible_3 rfl 1 rfl ?_
  refine gf_X4_0 E h1 fl_X8_63 dX8_isPossible_4 ?_
  obtain ⟨g1, h⟩ := h
  refine ra_ordinal E g1 ml_X8_91 (Nat.le_of_ble_eq_true rfl) ⟨Nat.le_of_ble_eq_true rfl, Nat.le_of_ble_eq_true rfl⟩ ⟨Nat.zero_le _, Nat.zero_le _⟩ dX8_isPossible_7 ?_
  obtain ⟨g2, h⟩ := h
  refine ia_smap E g2 dX8_isPossible_10 ?_
  by_cases q3_0 : ((M a1 0) + 1) = 1
  · replace h := h.1 q3_0
    refine ra_tableIn (tgt := 56) (off := 45) E dX8_isPossible_11 (by rw [q3_0]; decide) (by rw [q3_0]; decide) (by rw [q3_0]; decide) (by decide) ?_
    refine ra_aload_n E dX8_isPossible_56 rfl 0 rfl ?_
    refine ra_aload_n E dX8_isPossible_57 rfl 1 rfl ?_
    refine gf_X4_1 E h1 fl_X8_99 dX8_isPossible_58 ?_
    refine ra_aload_n E dX8_isPossible_61 rfl 1 rfl ?_
    refine gf_X4_2 E h1 fl_X8_102 dX8_isPossible_62 ?_
    refine ra_callIV (rest := []) E (c_X2_canSail _ h0 _ _ _ _ h) (lq_X2 _) cv_X2_canSail ml_X8_127 (by decide) (lm (h0.add (j := 0) (by decide))) (fun R => ⟨_, cel_canal tc ad h0 R⟩) rfl rfl rfl (Nat.le_of_ble_eq_true rfl) ⟨Nat.le_of_ble_eq_true rfl, Nat.le_of_ble_eq_true rfl⟩ ⟨Nat.zero_le _, Nat.zero_le _⟩ dX8_isPossible_65 (fun r29 M28 h => ?_)
    obtain ⟨b30, h⟩ := h
    exact ra_zret E hr (nz_01 b30) dX8_isPossible_68 ⟨b30, h⟩
  by_cases q3_1 : ((M a1 0) + 1) = 2
  · replace h := h.2.1 q3_1
    refine ra_tableIn (tgt := 69) (off := 58) E dX8_isPossible_11 (by rw [q3_1]; decide) (by rw [q3_1]; decide) (by rw [q3_1]; decide) (by decide) ?_
    refine ra_aload_n E dX8_isPossible_69 rfl 0 rfl ?_
    refine ra_aload_n E dX8_isPossible_70 rfl 1 rfl ?_
    refine gf_X4_1 E h1 fl_X8_99 dX8_isPossible_71 ?_
    refine ra_callIV (rest := []) E (c_X2_canAddOrder _ h0 _ _ _ h) (lq_X2 _) cv_X2_canAddOrder ml_X8_133 (by decide) (lm (h0.add (j := 0) (by decide))) (fun R => ⟨_, cel_canal tc ad h0 R⟩) rfl rfl rfl (Nat.le_of_ble_eq_true rfl) ⟨Nat.le_of_ble_eq_true rfl, Nat.le_of_ble_eq_true rfl⟩ ⟨Nat.zero_le _, Nat.zero_le _⟩ dX8_isPossible_74 (fun r32 M31 h => ?_)
    obtain ⟨b33, h⟩ := h
    exact ra_zret E hr (nz_01 b33) dX8_isPossible_77 ⟨b33, h⟩
  by_cases q3_2 : ((M a1 0) + 1) = 3
  · replace h := h.2.2.1 q3_2
    refine ra_tableIn (tgt := 78) (off := 67) E dX8_isPossible_11 (by rw [q3_2]; decide) (by rw [q3_2]; decide) (by rw [q3_2]; decide) (by decide) ?_
    refine ra_aload_n E dX8_isPossible_78 rfl 0 rfl ?_
    refine ra_aload_n E dX8_isPossible_79 rfl 1 rfl ?_
    refine gf_X4_1 E h1 fl_X8_99 dX8_isPossible_80 ?_
    refine ra_aload_n E dX8_isPossible_83 rfl 1 rfl ?_
    refine gf_X4_2 E h1 fl_X8_102 dX8_isPossible_84 ?_
    refine ra_callIV (rest := []) E (c_X2_canGive _ h0 _ _ _ _ h) (lq_X2 _) cv_X2_canGive ml_X8_136 (by decide) (lm (h0.add (j := 0) (by decide))) (fun R => ⟨_, cel_canal tc ad h0 R⟩) rfl rfl rfl (Nat.le_of_ble_eq_true rfl) ⟨Nat.le_of_ble_eq_true rfl, Nat.le_of_ble_eq_true rfl⟩ ⟨Nat.zero_le _, Nat.zero_le _⟩ dX8_isPossible_87 (fun r35 M34 h => ?_)
    obtain ⟨b36, h⟩ := h
    exact ra_zret E hr (nz_01 b36) dX8_isPossible_90 ⟨b36, h⟩
  by_cases q3_3 : ((M a1 0) + 1) = 4
  · replace h := h.2.2.2.1 q3_3
    refine ra_tableIn (tgt := 91) (off := 80) E dX8_isPossible_11 (by rw [q3_3]; decide) (by rw [q3_3]; decide) (by rw [q3_3]; decide) (by decide) ?_
    refine ra_aload_n E dX8_isPossible_91 rfl 0 rfl ?_
    refine ra_aload_n E dX8_isPossible_92 rfl 1 rfl ?_
    refine gf_X4_1 E h1 fl_X8_99 dX8_isPossible_93 ?_
    refine ra_callIV (rest := []) E (c_X2_canReopen _ h0 _ _ _ h) (lq_X2 _) cv_X2_canReopen ml_X8_139 (by decide) (lm (h0.add (j := 0) (by decide))) (fun R => ⟨_, cel_canal tc ad h0 R⟩) rfl rfl rfl (Nat.le_of_ble_eq_true rfl) ⟨Nat.le_of_ble_eq_true rfl, Nat.le_of_ble_eq_true rfl⟩ ⟨Nat.zero_le _, Nat.zero_le _⟩ dX8_isPossible_96 (fun r38 M37 h => ?_)
    obtain ⟨b39, h⟩ := h
    exact ra_zret E hr (nz_01 b39) dX8_isPossible_99 ⟨b39, h⟩
  by_cases q3_4 : ((M a1 0) + 1) = 5
  · replace h := h.2.2.2.2.1 q3_4
    refine ra_tableIn (tgt := 100) (off := 89) E dX8_isPossible_11 (by rw [q3_4]; decide) (by rw [q3_4]; decide) (by rw [q3_4]; decide) (by decide) ?_
    refine ra_aload_n E dX8_isPossible_100 rfl 0 rfl ?_
    refine ra_aload_n E dX8_isPossible_101 rfl 1 rfl ?_
    refine gf_X4_1 E h1 fl_X8_99 dX8_isPossible_102 ?_
    refine ra_aload_n E dX8_isPossible_105 rfl 1 rfl ?_
    refine gf_X4_2 E h1 fl_X8_102 dX8_isPossible_106 ?_
    refine ra_callIV (rest := []) E (c_X2_canLoadFlour _ h0 _ _ _ _ h) (lq_X2 _) cv_X2_canLoadFlour ml_X8_142 (by decide) (lm (h0.add (j := 0) (by decide))) (fun R => ⟨_, cel_canal tc ad h0 R⟩) rfl rfl rfl (Nat.le_of_ble_eq_true rfl) ⟨Nat.le_of_ble_eq_true rfl, Nat.le_of_ble_eq_true rfl⟩ ⟨Nat.zero_le _, Nat.zero_le _⟩ dX8_isPossible_109 (fun r41 M40 h => ?_)
    obtain ⟨b42, h⟩ := h
    exact ra_zret E hr (nz_01 b42) dX8_isPossible_112 ⟨b42, h⟩
  by_cases q3_5 : ((M a1 0) + 1) = 6
  · replace h := h.2.2.2.2.2.1 q3_5
    refine ra_tableIn (tgt := 113) (off := 102) E dX8_isPossible_11 (by rw [q3_5]; decide) (by rw [q3_5]; decide) (by rw [q3_5]; decide) (by decide) ?_
    refine ra_aload_n E dX8_isPossible_113 rfl 0 rfl ?_
    refine ra_aload_n E dX8_isPossible_114 rfl 1 rfl ?_
    refine gf_X4_1 E h1 fl_X8_99 dX8_isPossible_115 ?_
    refine ra_callIV (rest := []) E (c_X2_canGather _ h0 _ _ _ h) (lq_X2 _) cv_X2_canGather ml_X8_145 (by decide) (lm (h0.add (j := 0) (by decide))) (fun R => ⟨_, cel_canal tc ad h0 R⟩) rfl rfl rfl (Nat.le_of_ble_eq_true rfl) ⟨Nat.le_of_ble_eq_true rfl, Nat.le_of_ble_eq_true rfl⟩ ⟨Nat.zero_le _, Nat.zero_le _⟩ dX8_isPossible_118 (fun r44 M43 h => ?_)
    obtain ⟨b45, h⟩ := h
    exact ra_zret E hr (nz_01 b45) dX8_isPossible_121 ⟨b45, h⟩
  by_cases q3_6 : ((M a1 0) + 1) = 7
  · replace h := h.2.2.2.2.2.2.1 q3_6
    refine ra_tableIn (tgt := 122) (off := 111) E dX8_isPossible_11 (by rw [q3_6]; decide) (by rw [q3_6]; decide) (by rw [q3_6]; decide) (by decide) ?_
    refine ra_aload_n E dX8_isPossible_122 rfl 0 rfl ?_
    refine ra_aload_n E dX8_isPossible_123 rfl 1 rfl ?_
    refine gf_X4_1 E h1 fl_X8_99 dX8_isPossible_124 ?_
    refine ra_callIV (rest := []) E (c_X2_isInHarbor _ h0 _ _ _ h) (lq_X2 _) cv_X2_isInHarbor ml_X8_148 (by decide) (lm (h0.add (j := 0) (by decide))) (fun R => ⟨_, cel_canal tc ad h0 R⟩) rfl rfl rfl (Nat.le_of_ble_eq_true rfl) ⟨Nat.le_of_ble_eq_true rfl, Nat.le_of_ble_eq_true rfl⟩ ⟨Nat.zero_le _, Nat.zero_le _⟩ dX8_isPossible_127 (fun r47 M46 h => ?_)
    obtain ⟨b48, h⟩ := h
    exact ra_zret E hr (nz_01 b48) dX8_isPossible_130 ⟨b48, h⟩
  by_cases q3_7 : ((M a1 0) + 1) = 8
  · replace h := h.2.2.2.2.2.2.2.1 q3_7
    refine ra_tableIn (tgt := 131) (off := 120) E dX8_isPossible_11 (by rw [q3_7]; decide) (by rw [q3_7]; decide) (by rw [q3_7]; decide) (by decide) ?_
    refine ra_aload_n E dX8_isPossible_131 rfl 0 rfl ?_
    refine ra_aload_n E dX8_isPossible_132 rfl 1 rfl ?_
    refine gf_X4_1 E h1 fl_X8_99 dX8_isPossible_133 ?_
    refine ra_callIV (rest := []) E (c_X2_canPass _ h0 _ _ _ h) (lq_X2 _) cv_X2_canPass ml_X8_151 (by decide) (lm (h0.add (j := 0) (by decide))) (fun R => ⟨_, cel_canal tc ad h0 R⟩) rfl rfl rfl (Nat.le_of_ble_eq_true rfl) ⟨Nat.le_of_ble_eq_true rfl, Nat.le_of_ble_eq_true rfl⟩ ⟨Nat.zero_le _, Nat.zero_le _⟩ dX8_isPossible_136 (fun r50 M49 h => ?_)
    obtain ⟨b51, h⟩ := h
    exact ra_zret E hr (nz_01 b51) dX8_isPossible_139 ⟨b51, h⟩
  replace h := h.2.2.2.2.2.2.2.2 q3_0 q3_1 q3_2 q3_3 q3_4 q3_5 q3_6 q3_7
  refine ra_tableOut (tgt := 140) E dX8_isPossible_11 (by have := lk_ne q3_0 (by decide : (1 : Int32).toInt = 1); have := lk_ne q3_1 (by decide : (2 : Int32).toInt = 2); have := lk_ne q3_2 (by decide : (3 : Int32).toInt = 3); have := lk_ne q3_3 (by decide : (4 : Int32).toInt = 4); have := lk_ne q3_4 (by decide : (5 : Int32).toInt = 5); have := lk_ne q3_5 (by decide : (6 : Int32).toInt = 6); have := lk_ne q3_6 (by decide : (7 : Int32).toInt = 7); have := lk_ne q3_7 (by decide : (8 : Int32).toInt = 8); omega) (by decide) ?_
  refine ra_iconst E dX8_isPossible_140 ki_0 ?_
  exact ra_zret E hr rfl dX8_isPossible_141 ⟨Or.inl rfl, h⟩
def f_X10_appendInt (p1 : Int32) (M : TM) (K : TM → Prop) : Prop := f_X10_appendByte ((p1.toUInt32 >>> ((24 : Int32).toUInt32 &&& Int32.toUInt32 31)).toInt32) M (fun M1 => f_X10_appendByte ((p1.toUInt32 >>> ((16 : Int32).toUInt32 &&& Int32.toUInt32 31)).toInt32) M1 (fun M2 => f_X10_appendByte ((p1.toUInt32 >>> ((8 : Int32).toUInt32 &&& Int32.toUInt32 31)).toInt32) M2 (fun M3 => f_X10_appendByte p1 M3 (fun M4 => K M4))))
set_option maxRecDepth 100000 in
set_option maxHeartbeats 4000000 in
theorem c_X10_appendInt {ad : Nat → Nat} (p1 : Int32) (M : TM) (K : TM → Prop) (h : f_X10_appendInt p1 M K) : MV yX10_appendInt cX10_appendInt 2 1 ad [.ref (ad 1), .int p1] M K := by
  refine MV_of RX10 rfl (by decide +kernel) (Nat.le_of_ble_eq_true rfl) (fun p l e s m below meth c D tc E hr => ?_)
  unfold f_X10_appendInt at h
  refine ra_aload_n E dX10_appendInt_0 rfl 0 rfl ?_
  refine ra_iload_n E dX10_appendInt_1 rfl 1 rfl ?_
  refine ra_bipush E dX10_appendInt_2 kb_24 ?_
  refine ra_iushr E dX10_appendInt_4 rfl ?_
  refine ra_callVV (rest := []) E (c_X10_appendByte _ _ _ h) (lq_X10 _) cv_X10_appendByte ml_X10_37 (by decide) (lm (by decide)) (fun R => ⟨_, cel_1 tc ad R⟩) rfl rfl rfl (Nat.le_of_ble_eq_true rfl) ⟨Nat.le_of_ble_eq_true rfl, Nat.le_of_ble_eq_true rfl⟩ ⟨Nat.zero_le _, Nat.zero_le _⟩ dX10_appendInt_5 (fun M1 h => ?_)
  refine ra_aload_n E dX10_appendInt_8 rfl 0 rfl ?_
  refine ra_iload_n E dX10_appendInt_9 rfl 1 rfl ?_
  refine ra_bipush E dX10_appendInt_10 kb_16 ?_
  refine ra_iushr E dX10_appendInt_12 rfl ?_
  refine ra_callVV (rest := []) E (c_X10_appendByte _ _ _ h) (lq_X10 _) cv_X10_appendByte ml_X10_37 (by decide) (lm (by decide)) (fun R => ⟨_, cel_1 tc ad R⟩) rfl rfl rfl (Nat.le_of_ble_eq_true rfl) ⟨Nat.le_of_ble_eq_true rfl, Nat.le_of_ble_eq_true rfl⟩ ⟨Nat.zero_le _, Nat.zero_le _⟩ dX10_appendInt_13 (fun M2 h => ?_)
  refine ra_aload_n E dX10_appendInt_16 rfl 0 rfl ?_
  refine ra_iload_n E dX10_appendInt_17 rfl 1 rfl ?_
  refine ra_bipush E dX10_appendInt_18 kb_8 ?_
  refine ra_iushr E dX10_appendInt_20 rfl ?_
  refine ra_callVV (rest := []) E (c_X10_appendByte _ _ _ h) (lq_X10 _) cv_X10_appendByte ml_X10_37 (by decide) (lm (by decide)) (fun R => ⟨_, cel_1 tc ad R⟩) rfl rfl rfl (Nat.le_of_ble_eq_true rfl) ⟨Nat.le_of_ble_eq_true rfl, Nat.le_of_ble_eq_true rfl⟩ ⟨Nat.zero_le _, Nat.zero_le _⟩ dX10_appendInt_21 (fun M3 h => ?_)
  refine ra_aload_n E dX10_appendInt_24 rfl 0 rfl ?_
  refine ra_iload_n E dX10_appendInt_25 rfl 1 rfl ?_
  refine ra_callVV (rest := []) E (c_X10_appendByte _ _ _ h) (lq_X10 _) cv_X10_appendByte ml_X10_37 (by decide) (lm (by decide)) (fun R => ⟨_, cel_1 tc ad R⟩) rfl rfl rfl (Nat.le_of_ble_eq_true rfl) ⟨Nat.le_of_ble_eq_true rfl, Nat.le_of_ble_eq_true rfl⟩ ⟨Nat.zero_le _, Nat.zero_le _⟩ dX10_appendInt_26 (fun M4 h => ?_)
  exact ra_vret E hr dX10_appendInt_29 h
def f_X10_fail (p1 : Int32) (M : TM) (K : TM → Prop) : Prop := f_X10_failAt p1 (M 1 4) M (fun M1 => K M1)
set_option maxRecDepth 100000 in
set_option maxHeartbeats 4000000 in
theorem c_X10_fail {ad : Nat → Nat} (p1 : Int32) (M : TM) (K : TM → Prop) (h : f_X10_fail p1 M K) : MV yX10_fail cX10_fail 2 1 ad [.ref (ad 1), .int p1] M K := by
  refine MV_of RX10 rfl (by decide +kernel) (Nat.le_of_ble_eq_true rfl) (fun p l e s m below meth c D tc E hr => ?_)
  unfold f_X10_fail at h
  refine ra_aload_n E dX10_fail_0 rfl 0 rfl ?_
  refine ra_iload_n E dX10_fail_1 rfl 1 rfl ?_
  refine ra_aload_n E dX10_fail_2 rfl 0 rfl ?_
  refine gf_X10_4 E fl_X10_25 dX10_fail_3 ?_
  refine ra_callVV (rest := []) E (c_X10_failAt _ _ _ _ h) (lq_X10 _) cv_X10_failAt ml_X10_59 (by decide) (lm (by decide)) (fun R => ⟨_, cel_1 tc ad R⟩) rfl rfl rfl (Nat.le_of_ble_eq_true rfl) ⟨Nat.le_of_ble_eq_true rfl, Nat.le_of_ble_eq_true rfl⟩ ⟨Nat.zero_le _, Nat.zero_le _⟩ dX10_fail_6 (fun M1 h => ?_)
  exact ra_vret E hr dX10_fail_9 h
def f_X10_advance_L115  (K : TM → Prop) : Nat → TM → Prop
  | 0, _ => False
  | n + 1, M => (((M 1 2) ≤ (M 1 5) → K M) ∧ (¬ (M 1 2) ≤ (M 1 5) → vp_in (M 1 5) 500 ∧ f_X10_kindOf (M 2 (M 1 5).toNatClampNeg) M (fun r15 M14 => ((¬ r15 = (M14 1 3) → K M14) ∧ (r15 = (M14 1 3) → ∀ M17, M17 = u2 M14 1 5 ((M14 1 5) + (1 : Int32)) → f_X10_advance_L115 K n M17)))))
set_option maxRecDepth 100000 in
set_option maxHeartbeats 4000000 in
theorem l_X10_advance_L115 {p : Program} {l : Launch} {e : Env} {s : State} {m : MethodId} {args : Array Value} {below : List Frame} {meth : Method} {c : Code} {D : va_G} {tc : Nat → ClassId} {ad : Nat → Nat}  {K : TM → Prop} (E : Ev p s m args meth c D tc ad RX10 cX10_advance 1) (hr : meth.sig.returnType = none) : ∀ (n : Nat)  (M : TM) , f_X10_advance_L115  K n  M → Wa p l e (rmD 1) s m args below meth c 0 0 (MQ below (va_Qv K (EndW D tc ad) (A0 ad s.heap.size)) args s 0 0 (A0 ad s.heap.size)) D tc ad 1 M 115 [(0, .ref (ad 1))] [] := by
  intro n
  induction n with
  | zero => intro  M  h; exact h.elim
  | succ n ih =>
    intro  M  h
    unfold f_X10_advance_L115 at h
    refine ra_aload_n E dX10_advance_115 rfl 0 rfl ?_
    refine gf_X10_5 E fl_X10_28 dX10_advance_116 ?_
    refine ra_aload_n E dX10_advance_119 rfl 0 rfl ?_
    refine gf_X10_2 E fl_X10_19 dX10_advance_120 ?_
    refine ra_icmp_ge (tgt := 158) E dX10_advance_123 (by decide) (fun q12 => ?_) (fun q12 => ?_)
    · replace h := h.1 q12
      exact ra_vret E hr dX10_advance_158 h
    · replace h := h.2 q12
      refine ra_aload_n E dX10_advance_126 rfl 0 rfl ?_
      refine gf_X10_0 E fl_X10_9 dX10_advance_127 ?_
      refine ra_aload_n E dX10_advance_130 rfl 0 rfl ?_
      refine gf_X10_5 E fl_X10_28 dX10_advance_131 ?_
      obtain ⟨g13, h⟩ := h
      refine ra_bald E (lm (by decide)) (cel_2 tc ad) g13 dX10_advance_134 ?_
      refine ra_callIS (rest := []) E (c_X10_kindOf _ _ _ h) (lq_X10 _) ct_X10_kindOf ml_X10_63 (by decide) rfl rfl (Nat.le_of_ble_eq_true rfl) ⟨Nat.le_of_ble_eq_true rfl, Nat.le_of_ble_eq_true rfl⟩ ⟨Nat.zero_le _, Nat.zero_le _⟩ dX10_advance_135 (fun r15 M14 h => ?_)
      refine ra_aload_n E dX10_advance_138 rfl 0 rfl ?_
      refine gf_X10_3 E fl_X10_22 dX10_advance_139 ?_
      refine ra_icmp_ne (tgt := 158) E dX10_advance_142 (by decide) (fun q16 => ?_) (fun q16 => ?_)
      · replace h := h.1 q16
        exact ra_vret E hr dX10_advance_158 h
      · replace h := h.2 q16
        refine ra_aload_n E dX10_advance_145 rfl 0 rfl ?_
        refine ra_dup E dX10_advance_146 rfl ?_
        refine gf_X10_5 E fl_X10_28 dX10_advance_147 ?_
        refine ra_iconst E dX10_advance_150 ki_1 ?_
        refine ra_iadd E dX10_advance_151 ?_
        refine pf_X10_5 E fl_X10_28 dX10_advance_152 ?_
        replace h := h _ rfl
        refine ra_goto (tgt := 115) E dX10_advance_155 (by decide) ?_
        exact ra_sub (L' := [(0, _)]) [0] rfl (ih _ h)
def f_X10_advance_L48  (K : TM → Prop)  (M : TM) : Prop := ∀ M3, M3 = u2 M 1 5 (M 1 4) → ∀ M4, M4 = u2 M3 1 3 (0 : Int32) → (((M4 1 4) < (M4 1 2) → vp_in (M4 1 4) 500 ∧ f_X10_kindOf (M4 2 (M4 1 4).toNatClampNeg) M4 (fun r8 M7 => ∀ M9, M9 = u2 M7 1 3 r8 → ∀ M10, M10 = u2 M9 1 5 ((M9 1 5) + (1 : Int32)) → (((M10 1 3) = (3 : Int32) → ∃ n, f_X10_advance_L115 K n M10) ∧ (¬ (M10 1 3) = (3 : Int32) → ((¬ (M10 1 3) = (4 : Int32) → K M10) ∧ ((M10 1 3) = (4 : Int32) → ∃ n, f_X10_advance_L115 K n M10)))))) ∧ (¬ (M4 1 4) < (M4 1 2) → K M4))
set_option maxRecDepth 100000 in
set_option maxHeartbeats 4000000 in
theorem l_X10_advance_L48 {p : Program} {l : Launch} {e : Env} {s : State} {m : MethodId} {args : Array Value} {below : List Frame} {meth : Method} {c : Code} {D : va_G} {tc : Nat → ClassId} {ad : Nat → Nat}  {K : TM → Prop} (E : Ev p s m args meth c D tc ad RX10 cX10_advance 1) (hr : meth.sig.returnType = none) : ∀  (M : TM) , f_X10_advance_L48  K  M → Wa p l e (rmD 1) s m args below meth c 0 0 (MQ below (va_Qv K (EndW D tc ad) (A0 ad s.heap.size)) args s 0 0 (A0 ad s.heap.size)) D tc ad 1 M 48 [(0, .ref (ad 1))] [] := by
  intro  M  h
  unfold f_X10_advance_L48 at h
  refine ra_aload_n E dX10_advance_48 rfl 0 rfl ?_
  refine ra_aload_n E dX10_advance_49 rfl 0 rfl ?_
  refine gf_X10_4 E fl_X10_25 dX10_advance_50 ?_
  refine pf_X10_5 E fl_X10_28 dX10_advance_53 ?_
  replace h := h _ rfl
  refine ra_aload_n E dX10_advance_56 rfl 0 rfl ?_
  refine ra_iconst E dX10_advance_57 ki_0 ?_
  refine pf_X10_3 E fl_X10_22 dX10_advance_58 ?_
  replace h := h _ rfl
  refine ra_aload_n E dX10_advance_61 rfl 0 rfl ?_
  refine gf_X10_4 E fl_X10_25 dX10_advance_62 ?_
  refine ra_aload_n E dX10_advance_65 rfl 0 rfl ?_
  refine gf_X10_2 E fl_X10_19 dX10_advance_66 ?_
  refine ra_icmp_lt (tgt := 73) E dX10_advance_69 (by decide) (fun q5 => ?_) (fun q5 => ?_)
  · replace h := h.1 q5
    refine ra_aload_n E dX10_advance_73 rfl 0 rfl ?_
    refine ra_aload_n E dX10_advance_74 rfl 0 rfl ?_
    refine gf_X10_0 E fl_X10_9 dX10_advance_75 ?_
    refine ra_aload_n E dX10_advance_78 rfl 0 rfl ?_
    refine gf_X10_4 E fl_X10_25 dX10_advance_79 ?_
    obtain ⟨g6, h⟩ := h
    refine ra_bald E (lm (by decide)) (cel_2 tc ad) g6 dX10_advance_82 ?_
    refine ra_callIS (rest := [_]) E (c_X10_kindOf _ _ _ h) (lq_X10 _) ct_X10_kindOf ml_X10_63 (by decide) rfl rfl (Nat.le_of_ble_eq_true rfl) ⟨Nat.le_of_ble_eq_true rfl, Nat.le_of_ble_eq_true rfl⟩ ⟨Nat.zero_le _, Nat.zero_le _⟩ dX10_advance_83 (fun r8 M7 h => ?_)
    refine pf_X10_3 E fl_X10_22 dX10_advance_86 ?_
    replace h := h _ rfl
    refine ra_aload_n E dX10_advance_89 rfl 0 rfl ?_
    refine ra_dup E dX10_advance_90 rfl ?_
    refine gf_X10_5 E fl_X10_28 dX10_advance_91 ?_
    refine ra_iconst E dX10_advance_94 ki_1 ?_
    refine ra_iadd E dX10_advance_95 ?_
    refine pf_X10_5 E fl_X10_28 dX10_advance_96 ?_
    replace h := h _ rfl
    refine ra_aload_n E dX10_advance_99 rfl 0 rfl ?_
    refine gf_X10_3 E fl_X10_22 dX10_advance_100 ?_
    refine ra_iconst E dX10_advance_103 ki_3 ?_
    refine ra_icmp_eq (tgt := 115) E dX10_advance_104 (by decide) (fun q11 => ?_) (fun q11 => ?_)
    · replace h := h.1 q11
      obtain ⟨n18, h⟩ := h
      exact ra_sub (L' := [(0, _)]) [0] rfl (l_X10_advance_L115 E hr n18 _ h)
    · replace h := h.2 q11
      refine ra_aload_n E dX10_advance_107 rfl 0 rfl ?_
      refine gf_X10_3 E fl_X10_22 dX10_advance_108 ?_
      refine ra_iconst E dX10_advance_111 ki_4 ?_
      refine ra_icmp_ne (tgt := 158) E dX10_advance_112 (by decide) (fun q19 => ?_) (fun q19 => ?_)
      · replace h := h.1 q19
        exact ra_vret E hr dX10_advance_158 h
      · replace h := h.2 q19
        obtain ⟨n20, h⟩ := h
        exact ra_sub (L' := [(0, _)]) [0] rfl (l_X10_advance_L115 E hr n20 _ h)
  · replace h := h.2 q5
    exact ra_vret E hr dX10_advance_72 h
def f_X10_advance_L8  (K : TM → Prop) : Nat → TM → Prop
  | 0, _ => False
  | n + 1, M => (((M 1 2) ≤ (M 1 4) → f_X10_advance_L48 K M) ∧ (¬ (M 1 2) ≤ (M 1 4) → vp_in (M 1 4) 500 ∧ f_X10_kindOf (M 2 (M 1 4).toNatClampNeg) M (fun r23 M22 => ((¬ r23 = (2 : Int32) → f_X10_advance_L48 K M22) ∧ (r23 = (2 : Int32) → ∀ M25, M25 = u2 M22 1 4 ((M22 1 4) + (1 : Int32)) → f_X10_advance_L8 K n M25)))))
set_option maxRecDepth 100000 in
set_option maxHeartbeats 4000000 in
theorem l_X10_advance_L8 {p : Program} {l : Launch} {e : Env} {s : State} {m : MethodId} {args : Array Value} {below : List Frame} {meth : Method} {c : Code} {D : va_G} {tc : Nat → ClassId} {ad : Nat → Nat}  {K : TM → Prop} (E : Ev p s m args meth c D tc ad RX10 cX10_advance 1) (hr : meth.sig.returnType = none) : ∀ (n : Nat)  (M : TM) , f_X10_advance_L8  K n  M → Wa p l e (rmD 1) s m args below meth c 0 0 (MQ below (va_Qv K (EndW D tc ad) (A0 ad s.heap.size)) args s 0 0 (A0 ad s.heap.size)) D tc ad 1 M 8 [(0, .ref (ad 1))] [] := by
  intro n
  induction n with
  | zero => intro  M  h; exact h.elim
  | succ n ih =>
    intro  M  h
    unfold f_X10_advance_L8 at h
    refine ra_aload_n E dX10_advance_8 rfl 0 rfl ?_
    refine gf_X10_4 E fl_X10_25 dX10_advance_9 ?_
    refine ra_aload_n E dX10_advance_12 rfl 0 rfl ?_
    refine gf_X10_2 E fl_X10_19 dX10_advance_13 ?_
    refine ra_icmp_ge (tgt := 48) E dX10_advance_16 (by decide) (fun q2 => ?_) (fun q2 => ?_)
    · replace h := h.1 q2
      exact ra_sub (L' := [(0, _)]) [0] rfl (l_X10_advance_L48 E hr _ h)
    · replace h := h.2 q2
      refine ra_aload_n E dX10_advance_19 rfl 0 rfl ?_
      refine gf_X10_0 E fl_X10_9 dX10_advance_20 ?_
      refine ra_aload_n E dX10_advance_23 rfl 0 rfl ?_
      refine gf_X10_4 E fl_X10_25 dX10_advance_24 ?_
      obtain ⟨g21, h⟩ := h
      refine ra_bald E (lm (by decide)) (cel_2 tc ad) g21 dX10_advance_27 ?_
      refine ra_callIS (rest := []) E (c_X10_kindOf _ _ _ h) (lq_X10 _) ct_X10_kindOf ml_X10_63 (by decide) rfl rfl (Nat.le_of_ble_eq_true rfl) ⟨Nat.le_of_ble_eq_true rfl, Nat.le_of_ble_eq_true rfl⟩ ⟨Nat.zero_le _, Nat.zero_le _⟩ dX10_advance_28 (fun r23 M22 h => ?_)
      refine ra_iconst E dX10_advance_31 ki_2 ?_
      refine ra_icmp_ne (tgt := 48) E dX10_advance_32 (by decide) (fun q24 => ?_) (fun q24 => ?_)
      · replace h := h.1 q24
        exact ra_sub (L' := [(0, _)]) [0] rfl (l_X10_advance_L48 E hr _ h)
      · replace h := h.2 q24
        refine ra_aload_n E dX10_advance_35 rfl 0 rfl ?_
        refine ra_dup E dX10_advance_36 rfl ?_
        refine gf_X10_4 E fl_X10_25 dX10_advance_37 ?_
        refine ra_iconst E dX10_advance_40 ki_1 ?_
        refine ra_iadd E dX10_advance_41 ?_
        refine pf_X10_4 E fl_X10_25 dX10_advance_42 ?_
        replace h := h _ rfl
        refine ra_goto (tgt := 8) E dX10_advance_45 (by decide) ?_
        exact ra_sub (L' := [(0, _)]) [0] rfl (ih _ h)
def f_X10_advance  (M : TM) (K : TM → Prop) : Prop := ∀ M1, M1 = u2 M 1 4 (M 1 5) → ∃ n, f_X10_advance_L8 K n M1
set_option maxRecDepth 100000 in
set_option maxHeartbeats 4000000 in
theorem c_X10_advance {ad : Nat → Nat}  (M : TM) (K : TM → Prop) (h : f_X10_advance  M K) : MV yX10_advance cX10_advance 1 1 ad [.ref (ad 1)] M K := by
  refine MV_of RX10 rfl (by decide +kernel) (Nat.le_of_ble_eq_true rfl) (fun p l e s m below meth c D tc E hr => ?_)
  unfold f_X10_advance at h
  refine ra_aload_n E dX10_advance_0 rfl 0 rfl ?_
  refine ra_aload_n E dX10_advance_1 rfl 0 rfl ?_
  refine gf_X10_5 E fl_X10_28 dX10_advance_2 ?_
  refine pf_X10_4 E fl_X10_25 dX10_advance_5 ?_
  replace h := h _ rfl
  obtain ⟨n26, h⟩ := h
  exact ra_sub (L' := [(0, _)]) [0] rfl (l_X10_advance_L8 E hr n26 _ h)
def f_X10_readToken (p1 : Int32) (M : TM) (K : TM → Prop) : Prop := f_X10_isAt p1 M (fun r2 M1 => ((r2 = 0 → f_X10_fail (1 : Int32) M1 (fun M5 => K M5)) ∧ (¬ r2 = 0 → f_X10_advance M1 (fun M6 => K M6))))
set_option maxRecDepth 100000 in
set_option maxHeartbeats 4000000 in
theorem c_X10_readToken {ad : Nat → Nat} (p1 : Int32) (M : TM) (K : TM → Prop) (h : f_X10_readToken p1 M K) : MV yX10_readToken cX10_readToken 2 2 ad [.ref (ad 1), .int p1] M K := by
  refine MV_of RX10 rfl (by decide +kernel) (Nat.le_of_ble_eq_true rfl) (fun p l e s m below meth c D tc E hr => ?_)
  unfold f_X10_readToken at h
  refine ra_aload_n E dX10_readToken_0 rfl 0 rfl ?_
  refine ra_iload_n E dX10_readToken_1 rfl 1 rfl ?_
  refine ra_callIV (rest := []) E (c_X10_isAt _ _ _ h) (lq_X10 _) cv_X10_isAt ml_X10_67 (by decide) (lm (by decide)) (fun R => ⟨_, cel_1 tc ad R⟩) rfl rfl rfl (Nat.le_of_ble_eq_true rfl) ⟨Nat.le_of_ble_eq_true rfl, Nat.le_of_ble_eq_true rfl⟩ ⟨Nat.zero_le _, Nat.zero_le _⟩ dX10_readToken_2 (fun r2 M1 h => ?_)
  obtain ⟨b3, h⟩ := h
  refine ra_if_eq (tgt := 15) E dX10_readToken_5 (by decide) (fun q4 => ?_) (fun q4 => ?_)
  · replace h := h.1 q4
    refine ra_aload_n E dX10_readToken_15 rfl 0 rfl ?_
    refine ra_iconst E dX10_readToken_16 ki_1 ?_
    refine ra_callVV (rest := []) E (c_X10_fail _ _ _ h) (lq_X10 _) cv_X10_fail ml_X10_75 (by decide) (lm (by decide)) (fun R => ⟨_, cel_1 tc ad R⟩) rfl rfl rfl (Nat.le_of_ble_eq_true rfl) ⟨Nat.le_of_ble_eq_true rfl, Nat.le_of_ble_eq_true rfl⟩ ⟨Nat.zero_le _, Nat.zero_le _⟩ dX10_readToken_17 (fun M5 h => ?_)
    exact ra_vret E hr dX10_readToken_20 h
  · replace h := h.2 q4
    refine ra_aload_n E dX10_readToken_8 rfl 0 rfl ?_
    refine ra_callVV (rest := []) E (c_X10_advance _ _ h) (lq_X10 _) cv_X10_advance ml_X10_56 (by decide) (lm (by decide)) (fun R => ⟨_, cel_1 tc ad R⟩) rfl rfl rfl (Nat.le_of_ble_eq_true rfl) ⟨Nat.le_of_ble_eq_true rfl, Nat.le_of_ble_eq_true rfl⟩ ⟨Nat.zero_le _, Nat.zero_le _⟩ dX10_readToken_9 (fun M6 h => ?_)
    refine ra_goto (tgt := 20) E dX10_readToken_12 (by decide) ?_
    exact ra_vret E hr dX10_readToken_20 h
def f_X10_readNumber_L69 (p1 : Int32) (p2 : Int32) (K : Int32 → TM → Prop) (x1 : Int32) (x2 : Int32) (x3 : Int32) (M : TM) : Prop := ((x3 < x1 → f_X10_fail (2 : Int32) M (fun M7 => K x1 M7)) ∧ (¬ x3 < x1 → ((x3 ≤ x2 → f_X10_advance M (fun M9 => K x3 M9)) ∧ (¬ x3 ≤ x2 → f_X10_fail (2 : Int32) M (fun M10 => K x1 M10)))))
set_option maxRecDepth 100000 in
set_option maxHeartbeats 4000000 in
theorem l_X10_readNumber_L69 {p : Program} {l : Launch} {e : Env} {s : State} {m : MethodId} {args : Array Value} {below : List Frame} {meth : Method} {c : Code} {D : va_G} {tc : Nat → ClassId} {ad : Nat → Nat} (p1 : Int32) (p2 : Int32) {K : Int32 → TM → Prop} (E : Ev p s m args meth c D tc ad RX10 cX10_readNumber 5) (hr : meth.sig.returnType = (some .int)) : ∀ (x1 : Int32) (x2 : Int32) (x3 : Int32) (M : TM) , f_X10_readNumber_L69 p1 p2 K x1 x2 x3 M → Wa p l e (rmD 2) s m args below meth c 0 0 (MQ below (va_Qi K (EndW D tc ad) (A0 ad s.heap.size)) args s 0 0 (A0 ad s.heap.size)) D tc ad 5 M 69 [(0, .ref (ad 1)), (1, .int x1), (2, .int x2), (3, .int x3)] [] := by
  intro x1 x2 x3 M  h
  unfold f_X10_readNumber_L69 at h
  refine ra_iload_n E dX10_readNumber_69 rfl 3 rfl ?_
  refine ra_iload_n E dX10_readNumber_70 rfl 1 rfl ?_
  refine ra_icmp_lt (tgt := 79) E dX10_readNumber_71 (by decide) (fun q6 => ?_) (fun q6 => ?_)
  · replace h := h.1 q6
    refine ra_aload_n E dX10_readNumber_79 rfl 0 rfl ?_
    refine ra_iconst E dX10_readNumber_80 ki_2 ?_
    refine ra_callVV (rest := []) E (c_X10_fail _ _ _ h) (lq_X10 _) cv_X10_fail ml_X10_75 (by decide) (lm (by decide)) (fun R => ⟨_, cel_1 tc ad R⟩) rfl rfl rfl (Nat.le_of_ble_eq_true rfl) ⟨Nat.le_of_ble_eq_true rfl, Nat.le_of_ble_eq_true rfl⟩ ⟨Nat.zero_le _, Nat.zero_le _⟩ dX10_readNumber_81 (fun M7 h => ?_)
    refine ra_iload_n E dX10_readNumber_84 rfl 1 rfl ?_
    exact ra_iret E hr dX10_readNumber_85 h
  · replace h := h.2 q6
    refine ra_iload_n E dX10_readNumber_74 rfl 3 rfl ?_
    refine ra_iload_n E dX10_readNumber_75 rfl 2 rfl ?_
    refine ra_icmp_le (tgt := 86) E dX10_readNumber_76 (by decide) (fun q8 => ?_) (fun q8 => ?_)
    · replace h := h.1 q8
      refine ra_aload_n E dX10_readNumber_86 rfl 0 rfl ?_
      refine ra_callVV (rest := []) E (c_X10_advance _ _ h) (lq_X10 _) cv_X10_advance ml_X10_56 (by decide) (lm (by decide)) (fun R => ⟨_, cel_1 tc ad R⟩) rfl rfl rfl (Nat.le_of_ble_eq_true rfl) ⟨Nat.le_of_ble_eq_true rfl, Nat.le_of_ble_eq_true rfl⟩ ⟨Nat.zero_le _, Nat.zero_le _⟩ dX10_readNumber_87 (fun M9 h => ?_)
      refine ra_iload_n E dX10_readNumber_90 rfl 3 rfl ?_
      exact ra_iret E hr dX10_readNumber_91 h
    · replace h := h.2 q8
      refine ra_aload_n E dX10_readNumber_79 rfl 0 rfl ?_
      refine ra_iconst E dX10_readNumber_80 ki_2 ?_
      refine ra_callVV (rest := []) E (c_X10_fail _ _ _ h) (lq_X10 _) cv_X10_fail ml_X10_75 (by decide) (lm (by decide)) (fun R => ⟨_, cel_1 tc ad R⟩) rfl rfl rfl (Nat.le_of_ble_eq_true rfl) ⟨Nat.le_of_ble_eq_true rfl, Nat.le_of_ble_eq_true rfl⟩ ⟨Nat.zero_le _, Nat.zero_le _⟩ dX10_readNumber_81 (fun M10 h => ?_)
      refine ra_iload_n E dX10_readNumber_84 rfl 1 rfl ?_
      exact ra_iret E hr dX10_readNumber_85 h
def f_X10_readNumber_L23 (p1 : Int32) (p2 : Int32) (K : Int32 → TM → Prop) : Nat → Int32 → Int32 → Int32 → Int32 → TM → Prop
  | 0, _, _, _, _, _ => False
  | n + 1, x1, x2, x3, x4, M => (((M 1 5) ≤ x4 → f_X10_readNumber_L69 p1 p2 K x1 x2 x3 M) ∧ (¬ (M 1 5) ≤ x4 → (((500 : Int32) ≤ x4 → f_X10_readNumber_L69 p1 p2 K x1 x2 x3 M) ∧ (¬ (500 : Int32) ≤ x4 → vp_in x4 500 ∧ f_X10_readNumber_L23 p1 p2 K n x1 x2 (if (100000 : Int32) < ((((10 : Int32) * x3) + (M 2 x4.toNatClampNeg)) - (48 : Int32)) then (100000 : Int32) else ((((10 : Int32) * x3) + (M 2 x4.toNatClampNeg)) - (48 : Int32))) (x4 + 1) M))))
set_option maxRecDepth 100000 in
set_option maxHeartbeats 4000000 in
theorem l_X10_readNumber_L23 {p : Program} {l : Launch} {e : Env} {s : State} {m : MethodId} {args : Array Value} {below : List Frame} {meth : Method} {c : Code} {D : va_G} {tc : Nat → ClassId} {ad : Nat → Nat} (p1 : Int32) (p2 : Int32) {K : Int32 → TM → Prop} (E : Ev p s m args meth c D tc ad RX10 cX10_readNumber 5) (hr : meth.sig.returnType = (some .int)) : ∀ (n : Nat) (x1 : Int32) (x2 : Int32) (x3 : Int32) (x4 : Int32) (M : TM) , f_X10_readNumber_L23 p1 p2 K n x1 x2 x3 x4 M → Wa p l e (rmD 2) s m args below meth c 0 0 (MQ below (va_Qi K (EndW D tc ad) (A0 ad s.heap.size)) args s 0 0 (A0 ad s.heap.size)) D tc ad 5 M 23 [(0, .ref (ad 1)), (1, .int x1), (2, .int x2), (3, .int x3), (4, .int x4)] [] := by
  intro n
  induction n with
  | zero => intro x1 x2 x3 x4 M  h; exact h.elim
  | succ n ih =>
    intro x1 x2 x3 x4 M  h
    unfold f_X10_readNumber_L23 at h
    refine ra_iload E dX10_readNumber_23 4 rfl ?_
    refine ra_aload_n E dX10_readNumber_25 rfl 0 rfl ?_
    refine gf_X10_5 E fl_X10_28 dX10_readNumber_26 ?_
    refine ra_icmp_ge (tgt := 69) E dX10_readNumber_29 (by decide) (fun q5 => ?_) (fun q5 => ?_)
    · replace h := h.1 q5
      exact ra_sub (L' := [(0, _), (1, _), (2, _), (3, _)]) [0, 1, 2, 3] rfl (l_X10_readNumber_L69 p1 p2 E hr _ _ _ _ h)
    · replace h := h.2 q5
      refine ra_iload E dX10_readNumber_32 4 rfl ?_
      refine ra_aload_n E dX10_readNumber_34 rfl 0 rfl ?_
      refine gf_X10_0 E fl_X10_9 dX10_readNumber_35 ?_
      refine ra_alen (n := 500) (v := 500) E (lm (by decide)) (fun R => ⟨_, (cel_2 tc ad) R, rfl⟩) rfl (by decide) dX10_readNumber_38 ?_
      refine ra_icmp_ge (tgt := 69) E dX10_readNumber_39 (by decide) (fun q11 => ?_) (fun q11 => ?_)
      · replace h := h.1 q11
        exact ra_sub (L' := [(0, _), (1, _), (2, _), (3, _)]) [0, 1, 2, 3] rfl (l_X10_readNumber_L69 p1 p2 E hr _ _ _ _ h)
      · replace h := h.2 q11
        refine ra_bipush E dX10_readNumber_42 kb_10 ?_
        refine ra_iload_n E dX10_readNumber_44 rfl 3 rfl ?_
        refine ra_imul E dX10_readNumber_45 ?_
        refine ra_aload_n E dX10_readNumber_46 rfl 0 rfl ?_
        refine gf_X10_0 E fl_X10_9 dX10_readNumber_47 ?_
        refine ra_iload E dX10_readNumber_50 4 rfl ?_
        obtain ⟨g12, h⟩ := h
        refine ra_bald E (lm (by decide)) (cel_2 tc ad) g12 dX10_readNumber_52 ?_
        refine ra_iadd E dX10_readNumber_53 ?_
        refine ra_bipush E dX10_readNumber_54 kb_48 ?_
        refine ra_isub E dX10_readNumber_56 ?_
        refine ra_ldci (v := 100000) E kc_X10_78 dX10_readNumber_57 ?_
        refine ra_mmin E ml_X10_50 ⟨Nat.le_of_ble_eq_true rfl, Nat.le_of_ble_eq_true rfl⟩ ⟨Nat.zero_le _, Nat.zero_le _⟩ dX10_readNumber_59 ?_
        refine ra_istore_n (L' := [(3, _), (0, _), (1, _), (2, _), (4, _)]) E dX10_readNumber_62 rfl (by decide) rfl ?_
        refine ra_iinc1 (L' := [(4, _), (3, _), (0, _), (1, _), (2, _)]) E dX10_readNumber_63 4 rfl (by decide) rfl ?_
        refine ra_goto (tgt := 23) E dX10_readNumber_66 (by decide) ?_
        exact ra_sub (L' := [(0, _), (1, _), (2, _), (3, _), (4, _)]) [2, 3, 4, 1, 0] rfl (ih _ _ _ _ _ h)
def f_X10_readNumber (p1 : Int32) (p2 : Int32) (M : TM) (K : Int32 → TM → Prop) : Prop := f_X10_isAt (4 : Int32) M (fun r2 M1 => ((¬ r2 = 0 → ∃ n, f_X10_readNumber_L23 p1 p2 K n p1 p2 (0 : Int32) (M1 1 4) M1) ∧ (r2 = 0 → f_X10_fail (1 : Int32) M1 (fun M14 => K p1 M14))))
set_option maxRecDepth 100000 in
set_option maxHeartbeats 4000000 in
theorem c_X10_readNumber {ad : Nat → Nat} (p1 : Int32) (p2 : Int32) (M : TM) (K : Int32 → TM → Prop) (h : f_X10_readNumber p1 p2 M K) : MI yX10_readNumber cX10_readNumber 5 (some .int) 2 ad [.ref (ad 1), .int p1, .int p2] M K := by
  refine MI_of RX10 rfl (by decide +kernel) (Nat.le_of_ble_eq_true rfl) (fun p l e s m below meth c D tc E hr => ?_)
  unfold f_X10_readNumber at h
  refine ra_aload_n E dX10_readNumber_0 rfl 0 rfl ?_
  refine ra_iconst E dX10_readNumber_1 ki_4 ?_
  refine ra_callIV (rest := []) E (c_X10_isAt _ _ _ h) (lq_X10 _) cv_X10_isAt ml_X10_67 (by decide) (lm (by decide)) (fun R => ⟨_, cel_1 tc ad R⟩) rfl rfl rfl (Nat.le_of_ble_eq_true rfl) ⟨Nat.le_of_ble_eq_true rfl, Nat.le_of_ble_eq_true rfl⟩ ⟨Nat.zero_le _, Nat.zero_le _⟩ dX10_readNumber_2 (fun r2 M1 h => ?_)
  obtain ⟨b3, h⟩ := h
  refine ra_if_ne (tgt := 15) E dX10_readNumber_5 (by decide) (fun q4 => ?_) (fun q4 => ?_)
  · replace h := h.1 q4
    refine ra_iconst E dX10_readNumber_15 ki_0 ?_
    refine ra_istore_n (L' := [(3, _), (0, _), (1, _), (2, _)]) E dX10_readNumber_16 rfl (by decide) rfl ?_
    refine ra_aload_n E dX10_readNumber_17 rfl 1 rfl ?_
    refine gf_X10_4 E fl_X10_25 dX10_readNumber_18 ?_
    refine ra_istore (L' := [(4, _), (3, _), (0, _), (1, _), (2, _)]) E dX10_readNumber_21 (by decide) rfl ?_
    obtain ⟨n13, h⟩ := h
    exact ra_sub (L' := [(0, _), (1, _), (2, _), (3, _), (4, _)]) [2, 3, 4, 1, 0] rfl (l_X10_readNumber_L23 p1 p2 E hr n13 _ _ _ _ _ h)
  · replace h := h.2 q4
    refine ra_aload_n E dX10_readNumber_8 rfl 0 rfl ?_
    refine ra_iconst E dX10_readNumber_9 ki_1 ?_
    refine ra_callVV (rest := []) E (c_X10_fail _ _ _ h) (lq_X10 _) cv_X10_fail ml_X10_75 (by decide) (lm (by decide)) (fun R => ⟨_, cel_1 tc ad R⟩) rfl rfl rfl (Nat.le_of_ble_eq_true rfl) ⟨Nat.le_of_ble_eq_true rfl, Nat.le_of_ble_eq_true rfl⟩ ⟨Nat.zero_le _, Nat.zero_le _⟩ dX10_readNumber_10 (fun M14 h => ?_)
    refine ra_iload_n E dX10_readNumber_13 rfl 1 rfl ?_
    exact ra_iret E hr dX10_readNumber_14 h
def f_X12_appendText (p1 : Int32) (p2 : Int32) (p3 : Int32) (p4 : Int32) (p5 : Int32) (M : TM) (K : Int32 → TM → Prop) : Prop := f_X10_hasRoomFor (20 : Int32) M (fun r2 M1 => ((¬ r2 = 0 → f_X10_appendInt p1 M1 (fun M5 => f_X10_appendInt p2 M5 (fun M6 => f_X10_appendInt p3 M6 (fun M7 => f_X10_appendInt p4 M7 (fun M8 => f_X10_appendInt p5 M8 (fun M9 => K (M9 1 1) M9)))))) ∧ (r2 = 0 → K (-1 : Int32) M1)))
set_option maxRecDepth 100000 in
set_option maxHeartbeats 4000000 in
theorem c_X12_appendText {ad : Nat → Nat} (p1 : Int32) (p2 : Int32) (p3 : Int32) (p4 : Int32) (p5 : Int32) (M : TM) (K : Int32 → TM → Prop) (h : f_X12_appendText p1 p2 p3 p4 p5 M K) : MI yX12_appendText cX12_appendText 6 (some .int) 2 ad [.ref (ad 0), .int p1, .int p2, .int p3, .int p4, .int p5] M K := by
  refine MI_of RX12 rfl (by decide +kernel) (Nat.le_of_ble_eq_true rfl) (fun p l e s m below meth c D tc E hr => ?_)
  unfold f_X12_appendText at h
  refine ra_aload_n E dX12_appendText_0 rfl 0 rfl ?_
  refine gf_X12_0 E fl_X12_10 dX12_appendText_1 ?_
  refine ra_bipush E dX12_appendText_4 kb_20 ?_
  refine ra_callIV (rest := []) E (c_X10_hasRoomFor _ _ _ h) (lq_X10 _) cv_X10_hasRoomFor ml_X12_80 (by decide) (lm (by decide)) (fun R => ⟨_, cel_1 tc ad R⟩) rfl rfl rfl (Nat.le_of_ble_eq_true rfl) ⟨Nat.le_of_ble_eq_true rfl, Nat.le_of_ble_eq_true rfl⟩ ⟨Nat.zero_le _, Nat.zero_le _⟩ dX12_appendText_6 (fun r2 M1 h => ?_)
  obtain ⟨b3, h⟩ := h
  refine ra_if_ne (tgt := 14) E dX12_appendText_9 (by decide) (fun q4 => ?_) (fun q4 => ?_)
  · replace h := h.1 q4
    refine ra_aload_n E dX12_appendText_14 rfl 0 rfl ?_
    refine gf_X12_0 E fl_X12_10 dX12_appendText_15 ?_
    refine ra_iload_n E dX12_appendText_18 rfl 1 rfl ?_
    refine ra_callVV (rest := []) E (c_X10_appendInt _ _ _ h) (lq_X10 _) cv_X10_appendInt ml_X12_84 (by decide) (lm (by decide)) (fun R => ⟨_, cel_1 tc ad R⟩) rfl rfl rfl (Nat.le_of_ble_eq_true rfl) ⟨Nat.le_of_ble_eq_true rfl, Nat.le_of_ble_eq_true rfl⟩ ⟨Nat.zero_le _, Nat.zero_le _⟩ dX12_appendText_19 (fun M5 h => ?_)
    refine ra_aload_n E dX12_appendText_22 rfl 0 rfl ?_
    refine gf_X12_0 E fl_X12_10 dX12_appendText_23 ?_
    refine ra_iload_n E dX12_appendText_26 rfl 2 rfl ?_
    refine ra_callVV (rest := []) E (c_X10_appendInt _ _ _ h) (lq_X10 _) cv_X10_appendInt ml_X12_84 (by decide) (lm (by decide)) (fun R => ⟨_, cel_1 tc ad R⟩) rfl rfl rfl (Nat.le_of_ble_eq_true rfl) ⟨Nat.le_of_ble_eq_true rfl, Nat.le_of_ble_eq_true rfl⟩ ⟨Nat.zero_le _, Nat.zero_le _⟩ dX12_appendText_27 (fun M6 h => ?_)
    refine ra_aload_n E dX12_appendText_30 rfl 0 rfl ?_
    refine gf_X12_0 E fl_X12_10 dX12_appendText_31 ?_
    refine ra_iload_n E dX12_appendText_34 rfl 3 rfl ?_
    refine ra_callVV (rest := []) E (c_X10_appendInt _ _ _ h) (lq_X10 _) cv_X10_appendInt ml_X12_84 (by decide) (lm (by decide)) (fun R => ⟨_, cel_1 tc ad R⟩) rfl rfl rfl (Nat.le_of_ble_eq_true rfl) ⟨Nat.le_of_ble_eq_true rfl, Nat.le_of_ble_eq_true rfl⟩ ⟨Nat.zero_le _, Nat.zero_le _⟩ dX12_appendText_35 (fun M7 h => ?_)
    refine ra_aload_n E dX12_appendText_38 rfl 0 rfl ?_
    refine gf_X12_0 E fl_X12_10 dX12_appendText_39 ?_
    refine ra_iload E dX12_appendText_42 4 rfl ?_
    refine ra_callVV (rest := []) E (c_X10_appendInt _ _ _ h) (lq_X10 _) cv_X10_appendInt ml_X12_84 (by decide) (lm (by decide)) (fun R => ⟨_, cel_1 tc ad R⟩) rfl rfl rfl (Nat.le_of_ble_eq_true rfl) ⟨Nat.le_of_ble_eq_true rfl, Nat.le_of_ble_eq_true rfl⟩ ⟨Nat.zero_le _, Nat.zero_le _⟩ dX12_appendText_44 (fun M8 h => ?_)
    refine ra_aload_n E dX12_appendText_47 rfl 0 rfl ?_
    refine gf_X12_0 E fl_X12_10 dX12_appendText_48 ?_
    refine ra_iload E dX12_appendText_51 5 rfl ?_
    refine ra_callVV (rest := []) E (c_X10_appendInt _ _ _ h) (lq_X10 _) cv_X10_appendInt ml_X12_84 (by decide) (lm (by decide)) (fun R => ⟨_, cel_1 tc ad R⟩) rfl rfl rfl (Nat.le_of_ble_eq_true rfl) ⟨Nat.le_of_ble_eq_true rfl, Nat.le_of_ble_eq_true rfl⟩ ⟨Nat.zero_le _, Nat.zero_le _⟩ dX12_appendText_53 (fun M9 h => ?_)
    refine ra_aload_n E dX12_appendText_56 rfl 0 rfl ?_
    refine gf_X12_0 E fl_X12_10 dX12_appendText_57 ?_
    refine gf_X10_1 E fl_X12_87 dX12_appendText_60 ?_
    exact ra_iret E hr dX12_appendText_63 h
  · replace h := h.2 q4
    refine ra_iconst E dX12_appendText_12 ki_m1 ?_
    exact ra_iret E hr dX12_appendText_13 h
def f_X12_lockWait (p1 : Int32) (M : TM) (K : Int32 → TM → Prop) (X : String → TM → Prop) : Prop := f_X12_sectionAt p1 M (fun o2 M1 => (∃ x3, IsSec x3 ∧ o2 = some x3) ∧ (∀ x3, IsSec x3 → o2 = some x3 → K (M1 x3 0) M1)) X
set_option maxRecDepth 100000 in
set_option maxHeartbeats 4000000 in
theorem c_X12_lockWait {ad : Nat → Nat} (p1 : Int32) (M : TM) (K : Int32 → TM → Prop) (X : String → TM → Prop) (h : f_X12_lockWait p1 M K X) : XI yX12_lockWait cX12_lockWait 2 (some .int) 7 1 ad [.ref (ad 0), .int p1] M K X := by
  refine XI_of RX12 rfl (by decide +kernel) (Nat.le_of_ble_eq_true rfl) (fun p l e s m below meth c D tc E hr hfl hT => ?_)
  unfold f_X12_lockWait at h
  refine ra_aload_n E dX12_lockWait_0 rfl 0 rfl ?_
  refine ra_iload_n E dX12_lockWait_1 rfl 1 rfl ?_
  refine rx_callAVP (rest := []) E hfl (c_X12_sectionAt _ _ _ _ h) (lq_X12 _) cv_X12_sectionAt ml_X12_115 (by decide) (lm (by decide)) (fun R => ⟨_, cel_0 tc ad R⟩) rfl rfl rfl (Nat.le_of_ble_eq_true rfl) ⟨Nat.le_of_ble_eq_true rfl, Nat.le_of_ble_eq_true rfl⟩ ⟨Nat.le_of_ble_eq_true rfl, Nat.le_of_ble_eq_true rfl⟩ dX12_lockWait_2 hT ⟨Nat.le_of_ble_eq_true rfl, Nat.le_of_ble_eq_true rfl⟩ (fun _ _ hx => hx) (fun o2 M1 h => ?_)
  obtain ⟨q5, q7⟩ := h
  obtain ⟨x3, g4, q5⟩ := q5
  replace h := q7 x3 g4 q5
  subst q5
  refine gf_X9_0 E g4 fl_X12_119 dX12_lockWait_5 ?_
  exact rx_iret E hr dX12_lockWait_8 ⟨Nat.le_of_ble_eq_true rfl, Nat.le_of_ble_eq_true rfl⟩ h
def f_X12_clearance (p1 : Int32) (M : TM) (K : Int32 → TM → Prop) (X : String → TM → Prop) : Prop := f_X12_sectionAt p1 M (fun o2 M1 => (∃ x3, IsSec x3 ∧ o2 = some x3) ∧ (∀ x3, IsSec x3 → o2 = some x3 → K (M1 x3 1) M1)) X
set_option maxRecDepth 100000 in
set_option maxHeartbeats 4000000 in
theorem c_X12_clearance {ad : Nat → Nat} (p1 : Int32) (M : TM) (K : Int32 → TM → Prop) (X : String → TM → Prop) (h : f_X12_clearance p1 M K X) : XI yX12_clearance cX12_clearance 2 (some .int) 7 1 ad [.ref (ad 0), .int p1] M K X := by
  refine XI_of RX12 rfl (by decide +kernel) (Nat.le_of_ble_eq_true rfl) (fun p l e s m below meth c D tc E hr hfl hT => ?_)
  unfold f_X12_clearance at h
  refine ra_aload_n E dX12_clearance_0 rfl 0 rfl ?_
  refine ra_iload_n E dX12_clearance_1 rfl 1 rfl ?_
  refine rx_callAVP (rest := []) E hfl (c_X12_sectionAt _ _ _ _ h) (lq_X12 _) cv_X12_sectionAt ml_X12_115 (by decide) (lm (by decide)) (fun R => ⟨_, cel_0 tc ad R⟩) rfl rfl rfl (Nat.le_of_ble_eq_true rfl) ⟨Nat.le_of_ble_eq_true rfl, Nat.le_of_ble_eq_true rfl⟩ ⟨Nat.le_of_ble_eq_true rfl, Nat.le_of_ble_eq_true rfl⟩ dX12_clearance_2 hT ⟨Nat.le_of_ble_eq_true rfl, Nat.le_of_ble_eq_true rfl⟩ (fun _ _ hx => hx) (fun o2 M1 h => ?_)
  obtain ⟨q5, q7⟩ := h
  obtain ⟨x3, g4, q5⟩ := q5
  replace h := q7 x3 g4 q5
  subst q5
  refine gf_X9_1 E g4 fl_X12_124 dX12_clearance_5 ?_
  exact rx_iret E hr dX12_clearance_8 ⟨Nat.le_of_ble_eq_true rfl, Nat.le_of_ble_eq_true rfl⟩ h
def f_X12_bargeInLock (p1 : Int32) (M : TM) (K : Int32 → TM → Prop) (X : String → TM → Prop) : Prop := f_X12_sectionAt p1 M (fun o2 M1 => (∃ x3, IsSec x3 ∧ o2 = some x3) ∧ (∀ x3, IsSec x3 → o2 = some x3 → K (M1 x3 2) M1)) X
set_option maxRecDepth 100000 in
set_option maxHeartbeats 4000000 in
theorem c_X12_bargeInLock {ad : Nat → Nat} (p1 : Int32) (M : TM) (K : Int32 → TM → Prop) (X : String → TM → Prop) (h : f_X12_bargeInLock p1 M K X) : XI yX12_bargeInLock cX12_bargeInLock 2 (some .int) 7 1 ad [.ref (ad 0), .int p1] M K X := by
  refine XI_of RX12 rfl (by decide +kernel) (Nat.le_of_ble_eq_true rfl) (fun p l e s m below meth c D tc E hr hfl hT => ?_)
  unfold f_X12_bargeInLock at h
  refine ra_aload_n E dX12_bargeInLock_0 rfl 0 rfl ?_
  refine ra_iload_n E dX12_bargeInLock_1 rfl 1 rfl ?_
  refine rx_callAVP (rest := []) E hfl (c_X12_sectionAt _ _ _ _ h) (lq_X12 _) cv_X12_sectionAt ml_X12_115 (by decide) (lm (by decide)) (fun R => ⟨_, cel_0 tc ad R⟩) rfl rfl rfl (Nat.le_of_ble_eq_true rfl) ⟨Nat.le_of_ble_eq_true rfl, Nat.le_of_ble_eq_true rfl⟩ ⟨Nat.le_of_ble_eq_true rfl, Nat.le_of_ble_eq_true rfl⟩ dX12_bargeInLock_2 hT ⟨Nat.le_of_ble_eq_true rfl, Nat.le_of_ble_eq_true rfl⟩ (fun _ _ hx => hx) (fun o2 M1 h => ?_)
  obtain ⟨q5, q7⟩ := h
  obtain ⟨x3, g4, q5⟩ := q5
  replace h := q7 x3 g4 q5
  subst q5
  refine gf_X9_2 E g4 fl_X12_127 dX12_bargeInLock_5 ?_
  exact rx_iret E hr dX12_bargeInLock_8 ⟨Nat.le_of_ble_eq_true rfl, Nat.le_of_ble_eq_true rfl⟩ h
def f_X12_usedPairs (p1 : Int32) (M : TM) (K : Int32 → TM → Prop) (X : String → TM → Prop) : Prop := f_X12_requirePlace p1 M (fun M1 => vp_in (M1 0 5) 11 ∧ vp_in p1 16 ∧ K (M1 ((27 + 61 * (M1 0 5).toNatClampNeg) + 2) p1.toNatClampNeg) M1) X
set_option maxRecDepth 100000 in
set_option maxHeartbeats 4000000 in
theorem c_X12_usedPairs {ad : Nat → Nat} (p1 : Int32) (M : TM) (K : Int32 → TM → Prop) (X : String → TM → Prop) (h : f_X12_usedPairs p1 M K X) : XI yX12_usedPairs cX12_usedPairs 2 (some .int) 7 1 ad [.ref (ad 0), .int p1] M K X := by
  refine XI_of RX12 rfl (by decide +kernel) (Nat.le_of_ble_eq_true rfl) (fun p l e s m below meth c D tc E hr hfl hT => ?_)
  unfold f_X12_usedPairs at h
  refine ra_aload_n E dX12_usedPairs_0 rfl 0 rfl ?_
  refine ra_iload_n E dX12_usedPairs_1 rfl 1 rfl ?_
  refine rx_callVVP (rest := []) E hfl (c_X12_requirePlace _ _ _ _ h) (lq_X12 _) cv_X12_requirePlace ml_X12_130 (by decide) (lm (by decide)) (fun R => ⟨_, cel_0 tc ad R⟩) rfl rfl rfl (Nat.le_of_ble_eq_true rfl) ⟨Nat.le_of_ble_eq_true rfl, Nat.le_of_ble_eq_true rfl⟩ ⟨Nat.le_of_ble_eq_true rfl, Nat.le_of_ble_eq_true rfl⟩ dX12_usedPairs_2 hT ⟨Nat.le_of_ble_eq_true rfl, Nat.le_of_ble_eq_true rfl⟩ (fun _ _ hx => hx) (fun M1 h => ?_)
  refine ra_aload_n E dX12_usedPairs_5 rfl 0 rfl ?_
  obtain ⟨g2, h⟩ := h
  refine gf_X12_5 E fl_X12_41 dX12_usedPairs_6 ?_
  refine gf_X2_2 E (isCanal_of g2) fl_X12_133 dX12_usedPairs_9 ?_
  refine ra_iload_n E dX12_usedPairs_12 rfl 1 rfl ?_
  obtain ⟨g3, h⟩ := h
  refine ra_iald E (lm ((isCanal_of g2).add (by decide))) (cel_used tc ad (isCanal_of g2)) g3 dX12_usedPairs_13 ?_
  exact rx_iret E hr dX12_usedPairs_14 ⟨Nat.le_of_ble_eq_true rfl, Nat.le_of_ble_eq_true rfl⟩ h
def f_X12_bargesAt (p1 : Int32) (M : TM) (K : Int32 → TM → Prop) (X : String → TM → Prop) : Prop := f_X12_requirePlace p1 M (fun M1 => vp_in (M1 0 5) 11 ∧ f_X2_countBargesAt (27 + 61 * (M1 0 5).toNatClampNeg) p1 M1 (fun r4 M3 => K r4 M3)) X
set_option maxRecDepth 100000 in
set_option maxHeartbeats 4000000 in
theorem c_X12_bargesAt {ad : Nat → Nat} (p1 : Int32) (M : TM) (K : Int32 → TM → Prop) (X : String → TM → Prop) (h : f_X12_bargesAt p1 M K X) : XI yX12_bargesAt cX12_bargesAt 2 (some .int) 7 1 ad [.ref (ad 0), .int p1] M K X := by
  refine XI_of RX12 rfl (by decide +kernel) (Nat.le_of_ble_eq_true rfl) (fun p l e s m below meth c D tc E hr hfl hT => ?_)
  unfold f_X12_bargesAt at h
  refine ra_aload_n E dX12_bargesAt_0 rfl 0 rfl ?_
  refine ra_iload_n E dX12_bargesAt_1 rfl 1 rfl ?_
  refine rx_callVVP (rest := []) E hfl (c_X12_requirePlace _ _ _ _ h) (lq_X12 _) cv_X12_requirePlace ml_X12_130 (by decide) (lm (by decide)) (fun R => ⟨_, cel_0 tc ad R⟩) rfl rfl rfl (Nat.le_of_ble_eq_true rfl) ⟨Nat.le_of_ble_eq_true rfl, Nat.le_of_ble_eq_true rfl⟩ ⟨Nat.le_of_ble_eq_true rfl, Nat.le_of_ble_eq_true rfl⟩ dX12_bargesAt_2 hT ⟨Nat.le_of_ble_eq_true rfl, Nat.le_of_ble_eq_true rfl⟩ (fun _ _ hx => hx) (fun M1 h => ?_)
  refine ra_aload_n E dX12_bargesAt_5 rfl 0 rfl ?_
  obtain ⟨g2, h⟩ := h
  refine gf_X12_5 E fl_X12_41 dX12_bargesAt_6 ?_
  refine ra_iload_n E dX12_bargesAt_9 rfl 1 rfl ?_
  refine ra_callIV (rest := []) E (c_X2_countBargesAt _ (isCanal_of g2) _ _ _ h) (lq_X2 _) cv_X2_countBargesAt ml_X12_137 (by decide) (lm ((isCanal_of g2).add (j := 0) (by decide))) (fun R => ⟨_, cel_canal tc ad (isCanal_of g2) R⟩) rfl rfl rfl (Nat.le_of_ble_eq_true rfl) ⟨Nat.le_of_ble_eq_true rfl, Nat.le_of_ble_eq_true rfl⟩ ⟨Nat.le_of_ble_eq_true rfl, Nat.le_of_ble_eq_true rfl⟩ dX12_bargesAt_10 (fun r4 M3 h => ?_)
  exact rx_iret E hr dX12_bargesAt_13 ⟨Nat.le_of_ble_eq_true rfl, Nat.le_of_ble_eq_true rfl⟩ h
def f_X12_ordersAt (p1 : Int32) (M : TM) (K : Int32 → TM → Prop) (X : String → TM → Prop) : Prop := f_X12_requirePlace p1 M (fun M1 => vp_in (M1 0 5) 11 ∧ f_X2_countOrdersAt (27 + 61 * (M1 0 5).toNatClampNeg) p1 M1 (fun r4 M3 => K r4 M3)) X
set_option maxRecDepth 100000 in
set_option maxHeartbeats 4000000 in
theorem c_X12_ordersAt {ad : Nat → Nat} (p1 : Int32) (M : TM) (K : Int32 → TM → Prop) (X : String → TM → Prop) (h : f_X12_ordersAt p1 M K X) : XI yX12_ordersAt cX12_ordersAt 2 (some .int) 7 1 ad [.ref (ad 0), .int p1] M K X := by
  refine XI_of RX12 rfl (by decide +kernel) (Nat.le_of_ble_eq_true rfl) (fun p l e s m below meth c D tc E hr hfl hT => ?_)
  unfold f_X12_ordersAt at h
  refine ra_aload_n E dX12_ordersAt_0 rfl 0 rfl ?_
  refine ra_iload_n E dX12_ordersAt_1 rfl 1 rfl ?_
  refine rx_callVVP (rest := []) E hfl (c_X12_requirePlace _ _ _ _ h) (lq_X12 _) cv_X12_requirePlace ml_X12_130 (by decide) (lm (by decide)) (fun R => ⟨_, cel_0 tc ad R⟩) rfl rfl rfl (Nat.le_of_ble_eq_true rfl) ⟨Nat.le_of_ble_eq_true rfl, Nat.le_of_ble_eq_true rfl⟩ ⟨Nat.le_of_ble_eq_true rfl, Nat.le_of_ble_eq_true rfl⟩ dX12_ordersAt_2 hT ⟨Nat.le_of_ble_eq_true rfl, Nat.le_of_ble_eq_true rfl⟩ (fun _ _ hx => hx) (fun M1 h => ?_)
  refine ra_aload_n E dX12_ordersAt_5 rfl 0 rfl ?_
  obtain ⟨g2, h⟩ := h
  refine gf_X12_5 E fl_X12_41 dX12_ordersAt_6 ?_
  refine ra_iload_n E dX12_ordersAt_9 rfl 1 rfl ?_
  refine ra_callIV (rest := []) E (c_X2_countOrdersAt _ (isCanal_of g2) _ _ _ h) (lq_X2 _) cv_X2_countOrdersAt ml_X12_141 (by decide) (lm ((isCanal_of g2).add (j := 0) (by decide))) (fun R => ⟨_, cel_canal tc ad (isCanal_of g2) R⟩) rfl rfl rfl (Nat.le_of_ble_eq_true rfl) ⟨Nat.le_of_ble_eq_true rfl, Nat.le_of_ble_eq_true rfl⟩ ⟨Nat.le_of_ble_eq_true rfl, Nat.le_of_ble_eq_true rfl⟩ dX12_ordersAt_10 (fun r4 M3 h => ?_)
  exact rx_iret E hr dX12_ordersAt_13 ⟨Nat.le_of_ble_eq_true rfl, Nat.le_of_ble_eq_true rfl⟩ h
def f_X12_sailObstacle (p1 : Int32) (p2 : Int32) (M : TM) (K : Int32 → TM → Prop) (X : String → TM → Prop) : Prop := f_X12_requireBarge p1 M (fun M1 => f_X12_requirePlace p2 M1 (fun M2 => vp_in (M2 0 5) 11 ∧ f_X2_obstacleFor (27 + 61 * (M2 0 5).toNatClampNeg) p1 p2 M2 (fun r5 M4 => K r5 M4)) X) X
set_option maxRecDepth 100000 in
set_option maxHeartbeats 4000000 in
theorem c_X12_sailObstacle {ad : Nat → Nat} (p1 : Int32) (p2 : Int32) (M : TM) (K : Int32 → TM → Prop) (X : String → TM → Prop) (h : f_X12_sailObstacle p1 p2 M K X) : XI yX12_sailObstacle cX12_sailObstacle 3 (some .int) 7 2 ad [.ref (ad 0), .int p1, .int p2] M K X := by
  refine XI_of RX12 rfl (by decide +kernel) (Nat.le_of_ble_eq_true rfl) (fun p l e s m below meth c D tc E hr hfl hT => ?_)
  unfold f_X12_sailObstacle at h
  refine ra_aload_n E dX12_sailObstacle_0 rfl 0 rfl ?_
  refine ra_iload_n E dX12_sailObstacle_1 rfl 1 rfl ?_
  refine rx_callVVP (rest := []) E hfl (c_X12_requireBarge _ _ _ _ h) (lq_X12 _) cv_X12_requireBarge ml_X12_177 (by decide) (lm (by decide)) (fun R => ⟨_, cel_0 tc ad R⟩) rfl rfl rfl (Nat.le_of_ble_eq_true rfl) ⟨Nat.le_of_ble_eq_true rfl, Nat.le_of_ble_eq_true rfl⟩ ⟨Nat.le_of_ble_eq_true rfl, Nat.le_of_ble_eq_true rfl⟩ dX12_sailObstacle_2 hT ⟨Nat.le_of_ble_eq_true rfl, Nat.le_of_ble_eq_true rfl⟩ (fun _ _ hx => hx) (fun M1 h => ?_)
  refine ra_aload_n E dX12_sailObstacle_5 rfl 0 rfl ?_
  refine ra_iload_n E dX12_sailObstacle_6 rfl 2 rfl ?_
  refine rx_callVVP (rest := []) E hfl (c_X12_requirePlace _ _ _ _ h) (lq_X12 _) cv_X12_requirePlace ml_X12_130 (by decide) (lm (by decide)) (fun R => ⟨_, cel_0 tc ad R⟩) rfl rfl rfl (Nat.le_of_ble_eq_true rfl) ⟨Nat.le_of_ble_eq_true rfl, Nat.le_of_ble_eq_true rfl⟩ ⟨Nat.le_of_ble_eq_true rfl, Nat.le_of_ble_eq_true rfl⟩ dX12_sailObstacle_7 hT ⟨Nat.le_of_ble_eq_true rfl, Nat.le_of_ble_eq_true rfl⟩ (fun _ _ hx => hx) (fun M2 h => ?_)
  refine ra_aload_n E dX12_sailObstacle_10 rfl 0 rfl ?_
  obtain ⟨g3, h⟩ := h
  refine gf_X12_5 E fl_X12_41 dX12_sailObstacle_11 ?_
  refine ra_iload_n E dX12_sailObstacle_14 rfl 1 rfl ?_
  refine ra_iload_n E dX12_sailObstacle_15 rfl 2 rfl ?_
  refine ra_callIV (rest := []) E (c_X2_obstacleFor _ (isCanal_of g3) _ _ _ _ h) (lq_X2 _) cv_X2_obstacleFor ml_X12_251 (by decide) (lm ((isCanal_of g3).add (j := 0) (by decide))) (fun R => ⟨_, cel_canal tc ad (isCanal_of g3) R⟩) rfl rfl rfl (Nat.le_of_ble_eq_true rfl) ⟨Nat.le_of_ble_eq_true rfl, Nat.le_of_ble_eq_true rfl⟩ ⟨Nat.le_of_ble_eq_true rfl, Nat.le_of_ble_eq_true rfl⟩ dX12_sailObstacle_16 (fun r5 M4 h => ?_)
  exact rx_iret E hr dX12_sailObstacle_19 ⟨Nat.le_of_ble_eq_true rfl, Nat.le_of_ble_eq_true rfl⟩ h
def f_X12_journeyTime (p1 : Int32) (p2 : Int32) (M : TM) (K : Int32 → TM → Prop) (X : String → TM → Prop) : Prop := f_X12_requirePlace p1 M (fun M1 => f_X12_requirePlace p2 M1 (fun M2 => vp_in (M2 0 5) 11 ∧ f_X2_timeBetween (27 + 61 * (M2 0 5).toNatClampNeg) p1 p2 M2 (fun r5 M4 => K r5 M4)) X) X
set_option maxRecDepth 100000 in
set_option maxHeartbeats 4000000 in
theorem c_X12_journeyTime {ad : Nat → Nat} (p1 : Int32) (p2 : Int32) (M : TM) (K : Int32 → TM → Prop) (X : String → TM → Prop) (h : f_X12_journeyTime p1 p2 M K X) : XI yX12_journeyTime cX12_journeyTime 3 (some .int) 7 2 ad [.ref (ad 0), .int p1, .int p2] M K X := by
  refine XI_of RX12 rfl (by decide +kernel) (Nat.le_of_ble_eq_true rfl) (fun p l e s m below meth c D tc E hr hfl hT => ?_)
  unfold f_X12_journeyTime at h
  refine ra_aload_n E dX12_journeyTime_0 rfl 0 rfl ?_
  refine ra_iload_n E dX12_journeyTime_1 rfl 1 rfl ?_
  refine rx_callVVP (rest := []) E hfl (c_X12_requirePlace _ _ _ _ h) (lq_X12 _) cv_X12_requirePlace ml_X12_130 (by decide) (lm (by decide)) (fun R => ⟨_, cel_0 tc ad R⟩) rfl rfl rfl (Nat.le_of_ble_eq_true rfl) ⟨Nat.le_of_ble_eq_true rfl, Nat.le_of_ble_eq_true rfl⟩ ⟨Nat.le_of_ble_eq_true rfl, Nat.le_of_ble_eq_true rfl⟩ dX12_journeyTime_2 hT ⟨Nat.le_of_ble_eq_true rfl, Nat.le_of_ble_eq_true rfl⟩ (fun _ _ hx => hx) (fun M1 h => ?_)
  refine ra_aload_n E dX12_journeyTime_5 rfl 0 rfl ?_
  refine ra_iload_n E dX12_journeyTime_6 rfl 2 rfl ?_
  refine rx_callVVP (rest := []) E hfl (c_X12_requirePlace _ _ _ _ h) (lq_X12 _) cv_X12_requirePlace ml_X12_130 (by decide) (lm (by decide)) (fun R => ⟨_, cel_0 tc ad R⟩) rfl rfl rfl (Nat.le_of_ble_eq_true rfl) ⟨Nat.le_of_ble_eq_true rfl, Nat.le_of_ble_eq_true rfl⟩ ⟨Nat.le_of_ble_eq_true rfl, Nat.le_of_ble_eq_true rfl⟩ dX12_journeyTime_7 hT ⟨Nat.le_of_ble_eq_true rfl, Nat.le_of_ble_eq_true rfl⟩ (fun _ _ hx => hx) (fun M2 h => ?_)
  refine ra_aload_n E dX12_journeyTime_10 rfl 0 rfl ?_
  obtain ⟨g3, h⟩ := h
  refine gf_X12_5 E fl_X12_41 dX12_journeyTime_11 ?_
  refine ra_iload_n E dX12_journeyTime_14 rfl 1 rfl ?_
  refine ra_iload_n E dX12_journeyTime_15 rfl 2 rfl ?_
  refine ra_callIV (rest := []) E (c_X2_timeBetween _ (isCanal_of g3) _ _ _ _ h) (lq_X2 _) cv_X2_timeBetween ml_X12_255 (by decide) (lm ((isCanal_of g3).add (j := 0) (by decide))) (fun R => ⟨_, cel_canal tc ad (isCanal_of g3) R⟩) rfl rfl rfl (Nat.le_of_ble_eq_true rfl) ⟨Nat.le_of_ble_eq_true rfl, Nat.le_of_ble_eq_true rfl⟩ ⟨Nat.le_of_ble_eq_true rfl, Nat.le_of_ble_eq_true rfl⟩ dX12_journeyTime_16 (fun r5 M4 h => ?_)
  exact rx_iret E hr dX12_journeyTime_19 ⟨Nat.le_of_ble_eq_true rfl, Nat.le_of_ble_eq_true rfl⟩ h
def f_X12_writeCanal_L7  (K : Int32 → TM → Prop) : Nat → Int32 → TM → Prop
  | 0, _, _ => False
  | n + 1, x1, M => vp_in (M 0 5) 11 ∧ (((M (27 + 61 * (M 0 5).toNatClampNeg) 0) ≤ x1 → K (M 0 8) M) ∧ (¬ (M (27 + 61 * (M 0 5).toNatClampNeg) 0) ≤ x1 → ((x1 ≤ 0 → vp_in (M 0 5) 11 ∧ f_X2_signOfPlace (27 + 61 * (M 0 5).toNatClampNeg) x1 M (fun r7 M6 => f_X12_writeSign r7 M6 (fun M9 => f_X12_writeCanal_L7 K n (x1 + 1) M9))) ∧ (¬ x1 ≤ 0 → vp_in (M 0 5) 11 ∧ f_X2_signOfSection (27 + 61 * (M 0 5).toNatClampNeg) (x1 - (1 : Int32)) M (fun r12 M11 => f_X12_writeSign r12 M11 (fun M14 => vp_in (M14 0 5) 11 ∧ f_X2_signOfPlace (27 + 61 * (M14 0 5).toNatClampNeg) x1 M14 (fun r17 M16 => f_X12_writeSign r17 M16 (fun M19 => f_X12_writeCanal_L7 K n (x1 + 1) M19))))))))
set_option maxRecDepth 100000 in
set_option maxHeartbeats 4000000 in
theorem l_X12_writeCanal_L7 {p : Program} {l : Launch} {e : Env} {s : State} {m : MethodId} {args : Array Value} {below : List Frame} {meth : Method} {c : Code} {D : va_G} {tc : Nat → ClassId} {ad : Nat → Nat}  {K : Int32 → TM → Prop} (E : Ev p s m args meth c D tc ad RX12 cX12_writeCanal 2) (hr : meth.sig.returnType = (some .int)) : ∀ (n : Nat) (x1 : Int32) (M : TM) , f_X12_writeCanal_L7  K n x1 M → Wa p l e (rmD 3) s m args below meth c 0 0 (MQ below (va_Qi K (EndW D tc ad) (A0 ad s.heap.size)) args s 0 0 (A0 ad s.heap.size)) D tc ad 2 M 7 [(0, .ref (ad 0)), (1, .int x1)] [] := by
  intro n
  induction n with
  | zero => intro x1 M  h; exact h.elim
  | succ n ih =>
    intro x1 M  h
    unfold f_X12_writeCanal_L7 at h
    refine ra_iload_n E dX12_writeCanal_7 rfl 1 rfl ?_
    refine ra_aload_n E dX12_writeCanal_8 rfl 0 rfl ?_
    obtain ⟨g2, h⟩ := h
    refine gf_X12_5 E fl_X12_41 dX12_writeCanal_9 ?_
    refine gf_X2_0 E (isCanal_of g2) fl_X12_112 dX12_writeCanal_12 ?_
    refine ra_icmp_ge (tgt := 54) E dX12_writeCanal_15 (by decide) (fun q3 => ?_) (fun q3 => ?_)
    · replace h := h.1 q3
      refine ra_aload_n E dX12_writeCanal_54 rfl 0 rfl ?_
      refine gf_X12_8 E fl_X12_51 dX12_writeCanal_55 ?_
      exact ra_iret E hr dX12_writeCanal_58 h
    · replace h := h.2 q3
      refine ra_iload_n E dX12_writeCanal_18 rfl 1 rfl ?_
      refine ra_if_le (tgt := 36) E dX12_writeCanal_19 (by decide) (fun q4 => ?_) (fun q4 => ?_)
      · replace h := h.1 q4
        refine ra_aload_n E dX12_writeCanal_36 rfl 0 rfl ?_
        refine ra_aload_n E dX12_writeCanal_37 rfl 0 rfl ?_
        obtain ⟨g5, h⟩ := h
        refine gf_X12_5 E fl_X12_41 dX12_writeCanal_38 ?_
        refine ra_iload_n E dX12_writeCanal_41 rfl 1 rfl ?_
        refine ra_callIV (rest := [_]) E (c_X2_signOfPlace _ (isCanal_of g5) _ _ _ h) (lq_X2 _) cv_X2_signOfPlace ml_X12_350 (by decide) (lm ((isCanal_of g5).add (j := 0) (by decide))) (fun R => ⟨_, cel_canal tc ad (isCanal_of g5) R⟩) rfl rfl rfl (Nat.le_of_ble_eq_true rfl) ⟨Nat.le_of_ble_eq_true rfl, Nat.le_of_ble_eq_true rfl⟩ ⟨Nat.zero_le _, Nat.zero_le _⟩ dX12_writeCanal_42 (fun r7 M6 h => ?_)
        obtain ⟨b8, h⟩ := h
        refine ra_callVV (rest := []) E (c_X12_writeSign _ _ _ h) (lq_X12 _) cv_X12_writeSign ml_X12_346 (by decide) (lm (by decide)) (fun R => ⟨_, cel_0 tc ad R⟩) rfl rfl rfl (Nat.le_of_ble_eq_true rfl) ⟨Nat.le_of_ble_eq_true rfl, Nat.le_of_ble_eq_true rfl⟩ ⟨Nat.zero_le _, Nat.zero_le _⟩ dX12_writeCanal_45 (fun M9 h => ?_)
        refine ra_iinc1 (L' := [(1, _), (0, _)]) E dX12_writeCanal_48 1 rfl (by decide) rfl ?_
        refine ra_goto (tgt := 7) E dX12_writeCanal_51 (by decide) ?_
        exact ra_sub (L' := [(0, _), (1, _)]) [1, 0] rfl (ih _ _ h)
      · replace h := h.2 q4
        refine ra_aload_n E dX12_writeCanal_22 rfl 0 rfl ?_
        refine ra_aload_n E dX12_writeCanal_23 rfl 0 rfl ?_
        obtain ⟨g10, h⟩ := h
        refine gf_X12_5 E fl_X12_41 dX12_writeCanal_24 ?_
        refine ra_iload_n E dX12_writeCanal_27 rfl 1 rfl ?_
        refine ra_iconst E dX12_writeCanal_28 ki_1 ?_
        refine ra_isub E dX12_writeCanal_29 ?_
        refine ra_callIV (rest := [_]) E (c_X2_signOfSection _ (isCanal_of g10) _ _ _ h) (lq_X2 _) cv_X2_signOfSection ml_X12_342 (by decide) (lm ((isCanal_of g10).add (j := 0) (by decide))) (fun R => ⟨_, cel_canal tc ad (isCanal_of g10) R⟩) rfl rfl rfl (Nat.le_of_ble_eq_true rfl) ⟨Nat.le_of_ble_eq_true rfl, Nat.le_of_ble_eq_true rfl⟩ ⟨Nat.zero_le _, Nat.zero_le _⟩ dX12_writeCanal_30 (fun r12 M11 h => ?_)
        obtain ⟨b13, h⟩ := h
        refine ra_callVV (rest := []) E (c_X12_writeSign _ _ _ h) (lq_X12 _) cv_X12_writeSign ml_X12_346 (by decide) (lm (by decide)) (fun R => ⟨_, cel_0 tc ad R⟩) rfl rfl rfl (Nat.le_of_ble_eq_true rfl) ⟨Nat.le_of_ble_eq_true rfl, Nat.le_of_ble_eq_true rfl⟩ ⟨Nat.zero_le _, Nat.zero_le _⟩ dX12_writeCanal_33 (fun M14 h => ?_)
        refine ra_aload_n E dX12_writeCanal_36 rfl 0 rfl ?_
        refine ra_aload_n E dX12_writeCanal_37 rfl 0 rfl ?_
        obtain ⟨g15, h⟩ := h
        refine gf_X12_5 E fl_X12_41 dX12_writeCanal_38 ?_
        refine ra_iload_n E dX12_writeCanal_41 rfl 1 rfl ?_
        refine ra_callIV (rest := [_]) E (c_X2_signOfPlace _ (isCanal_of g15) _ _ _ h) (lq_X2 _) cv_X2_signOfPlace ml_X12_350 (by decide) (lm ((isCanal_of g15).add (j := 0) (by decide))) (fun R => ⟨_, cel_canal tc ad (isCanal_of g15) R⟩) rfl rfl rfl (Nat.le_of_ble_eq_true rfl) ⟨Nat.le_of_ble_eq_true rfl, Nat.le_of_ble_eq_true rfl⟩ ⟨Nat.zero_le _, Nat.zero_le _⟩ dX12_writeCanal_42 (fun r17 M16 h => ?_)
        obtain ⟨b18, h⟩ := h
        refine ra_callVV (rest := []) E (c_X12_writeSign _ _ _ h) (lq_X12 _) cv_X12_writeSign ml_X12_346 (by decide) (lm (by decide)) (fun R => ⟨_, cel_0 tc ad R⟩) rfl rfl rfl (Nat.le_of_ble_eq_true rfl) ⟨Nat.le_of_ble_eq_true rfl, Nat.le_of_ble_eq_true rfl⟩ ⟨Nat.zero_le _, Nat.zero_le _⟩ dX12_writeCanal_45 (fun M19 h => ?_)
        refine ra_iinc1 (L' := [(1, _), (0, _)]) E dX12_writeCanal_48 1 rfl (by decide) rfl ?_
        refine ra_goto (tgt := 7) E dX12_writeCanal_51 (by decide) ?_
        exact ra_sub (L' := [(0, _), (1, _)]) [1, 0] rfl (ih _ _ h)
def f_X12_writeCanal  (M : TM) (K : Int32 → TM → Prop) : Prop := ∀ M1, M1 = u2 M 0 8 (0 : Int32) → ∃ n, f_X12_writeCanal_L7 K n (0 : Int32) M1
set_option maxRecDepth 100000 in
set_option maxHeartbeats 4000000 in
theorem c_X12_writeCanal {ad : Nat → Nat}  (M : TM) (K : Int32 → TM → Prop) (h : f_X12_writeCanal  M K) : MI yX12_writeCanal cX12_writeCanal 2 (some .int) 3 ad [.ref (ad 0)] M K := by
  refine MI_of RX12 rfl (by decide +kernel) (Nat.le_of_ble_eq_true rfl) (fun p l e s m below meth c D tc E hr => ?_)
  unfold f_X12_writeCanal at h
  refine ra_aload_n E dX12_writeCanal_0 rfl 0 rfl ?_
  refine ra_iconst E dX12_writeCanal_1 ki_0 ?_
  refine pf_X12_8 E fl_X12_51 dX12_writeCanal_2 ?_
  replace h := h _ rfl
  refine ra_iconst E dX12_writeCanal_5 ki_0 ?_
  refine ra_istore_n (L' := [(1, _), (0, _)]) E dX12_writeCanal_6 rfl (by decide) rfl ?_
  obtain ⟨n20, h⟩ := h
  exact ra_sub (L' := [(0, _), (1, _)]) [1, 0] rfl (l_X12_writeCanal_L7 E hr n20 _ _ h)
def f_X12_undo  (M : TM) (K : Int32 → TM → Prop) (X : String → TM → Prop) : Prop := (((M 25 2) ≤ 0 → f_X12_requireState (0 : Int32) M (fun M2 => vp_in (M2 0 5) 11 ∧ f_X5_takeBack (27 + 61 * (M2 0 5).toNatClampNeg) M2 (fun M4 => K (M4 25 2) M4)) X) ∧ (¬ (M 25 2) ≤ 0 → f_X12_requireState (1 : Int32) M (fun M5 => vp_in (M5 0 5) 11 ∧ f_X5_takeBack (27 + 61 * (M5 0 5).toNatClampNeg) M5 (fun M7 => K (M7 25 2) M7)) X))
set_option maxRecDepth 100000 in
set_option maxHeartbeats 4000000 in
theorem c_X12_undo {ad : Nat → Nat}  (M : TM) (K : Int32 → TM → Prop) (X : String → TM → Prop) (h : f_X12_undo  M K X) : XI yX12_undo cX12_undo 1 (some .int) 7 1 ad [.ref (ad 0)] M K X := by
  refine XI_of RX12 rfl (by decide +kernel) (Nat.le_of_ble_eq_true rfl) (fun p l e s m below meth c D tc E hr hfl hT => ?_)
  unfold f_X12_undo at h
  refine ra_aload_n E dX12_undo_0 rfl 0 rfl ?_
  refine gf_X12_2 E fl_X12_26 dX12_undo_1 ?_
  refine gf_X5_2 E fl_X12_359 dX12_undo_4 ?_
  refine ra_if_le (tgt := 14) E dX12_undo_7 (by decide) (fun q1 => ?_) (fun q1 => ?_)
  · replace h := h.1 q1
    refine ra_iconst E dX12_undo_14 ki_0 ?_
    refine rx_callVSP (rest := []) E hfl (c_X12_requireState _ _ _ _ h) (lq_X12 _) ct_X12_requireState ml_X12_285 (by decide) rfl rfl (Nat.le_of_ble_eq_true rfl) ⟨Nat.le_of_ble_eq_true rfl, Nat.le_of_ble_eq_true rfl⟩ ⟨Nat.le_of_ble_eq_true rfl, Nat.le_of_ble_eq_true rfl⟩ dX12_undo_15 hT ⟨Nat.le_of_ble_eq_true rfl, Nat.le_of_ble_eq_true rfl⟩ (fun _ _ hx => hx) (fun M2 h => ?_)
    refine ra_aload_n E dX12_undo_18 rfl 0 rfl ?_
    refine gf_X12_2 E fl_X12_26 dX12_undo_19 ?_
    refine ra_aload_n E dX12_undo_22 rfl 0 rfl ?_
    obtain ⟨g3, h⟩ := h
    refine gf_X12_5 E fl_X12_41 dX12_undo_23 ?_
    refine ra_callVV (rest := []) E (c_X5_takeBack _ (isCanal_of g3) _ _ h) (lq_X5 _) cv_X5_takeBack ml_X12_362 (by decide) (lm (by decide)) (fun R => ⟨_, cel_25 tc ad R⟩) rfl rfl rfl (Nat.le_of_ble_eq_true rfl) ⟨Nat.le_of_ble_eq_true rfl, Nat.le_of_ble_eq_true rfl⟩ ⟨Nat.le_of_ble_eq_true rfl, Nat.le_of_ble_eq_true rfl⟩ dX12_undo_26 (fun M4 h => ?_)
    refine ra_aload_n E dX12_undo_29 rfl 0 rfl ?_
    refine gf_X12_2 E fl_X12_26 dX12_undo_30 ?_
    refine gf_X5_2 E fl_X12_359 dX12_undo_33 ?_
    exact rx_iret E hr dX12_undo_36 ⟨Nat.le_of_ble_eq_true rfl, Nat.le_of_ble_eq_true rfl⟩ h
  · replace h := h.2 q1
    refine ra_iconst E dX12_undo_10 ki_1 ?_
    refine ra_goto (tgt := 15) E dX12_undo_11 (by decide) ?_
    refine rx_callVSP (rest := []) E hfl (c_X12_requireState _ _ _ _ h) (lq_X12 _) ct_X12_requireState ml_X12_285 (by decide) rfl rfl (Nat.le_of_ble_eq_true rfl) ⟨Nat.le_of_ble_eq_true rfl, Nat.le_of_ble_eq_true rfl⟩ ⟨Nat.le_of_ble_eq_true rfl, Nat.le_of_ble_eq_true rfl⟩ dX12_undo_15 hT ⟨Nat.le_of_ble_eq_true rfl, Nat.le_of_ble_eq_true rfl⟩ (fun _ _ hx => hx) (fun M5 h => ?_)
    refine ra_aload_n E dX12_undo_18 rfl 0 rfl ?_
    refine gf_X12_2 E fl_X12_26 dX12_undo_19 ?_
    refine ra_aload_n E dX12_undo_22 rfl 0 rfl ?_
    obtain ⟨g6, h⟩ := h
    refine gf_X12_5 E fl_X12_41 dX12_undo_23 ?_
    refine ra_callVV (rest := []) E (c_X5_takeBack _ (isCanal_of g6) _ _ h) (lq_X5 _) cv_X5_takeBack ml_X12_362 (by decide) (lm (by decide)) (fun R => ⟨_, cel_25 tc ad R⟩) rfl rfl rfl (Nat.le_of_ble_eq_true rfl) ⟨Nat.le_of_ble_eq_true rfl, Nat.le_of_ble_eq_true rfl⟩ ⟨Nat.le_of_ble_eq_true rfl, Nat.le_of_ble_eq_true rfl⟩ dX12_undo_26 (fun M7 h => ?_)
    refine ra_aload_n E dX12_undo_29 rfl 0 rfl ?_
    refine gf_X12_2 E fl_X12_26 dX12_undo_30 ?_
    refine gf_X5_2 E fl_X12_359 dX12_undo_33 ?_
    exact rx_iret E hr dX12_undo_36 ⟨Nat.le_of_ble_eq_true rfl, Nat.le_of_ble_eq_true rfl⟩ h
def f_X12_saveSnapshot  (M : TM) (K : TM → Prop) : Prop := vp_in (M 0 5) 11 ∧ f_X2_copyFrom 515 (27 + 61 * (M 0 5).toNatClampNeg) M (fun M2 => ∀ M3, M3 = u2 M2 0 4 (1 : Int32) → K M3)
set_option maxRecDepth 100000 in
set_option maxHeartbeats 4000000 in
theorem c_X12_saveSnapshot {ad : Nat → Nat}  (M : TM) (K : TM → Prop) (h : f_X12_saveSnapshot  M K) : MV yX12_saveSnapshot cX12_saveSnapshot 1 3 ad [.ref (ad 0)] M K := by
  refine MV_of RX12 rfl (by decide +kernel) (Nat.le_of_ble_eq_true rfl) (fun p l e s m below meth c D tc E hr => ?_)
  unfold f_X12_saveSnapshot at h
  refine ra_aload_n E dX12_saveSnapshot_0 rfl 0 rfl ?_
  refine gf_X12_3 E fl_X12_33 dX12_saveSnapshot_1 ?_
  refine ra_aload_n E dX12_saveSnapshot_4 rfl 0 rfl ?_
  obtain ⟨g1, h⟩ := h
  refine gf_X12_5 E fl_X12_41 dX12_saveSnapshot_5 ?_
  refine ra_callVV (rest := []) E (c_X2_copyFrom _ isCanal_515 _ (isCanal_of g1) _ _ h) (lq_X2 _) cv_X2_copyFrom ml_X12_258 (by decide) (lm (isCanal_515.add (j := 0) (by decide))) (fun R => ⟨_, cel_canal tc ad isCanal_515 R⟩) rfl rfl rfl (Nat.le_of_ble_eq_true rfl) ⟨Nat.le_of_ble_eq_true rfl, Nat.le_of_ble_eq_true rfl⟩ ⟨Nat.zero_le _, Nat.zero_le _⟩ dX12_saveSnapshot_8 (fun M2 h => ?_)
  refine ra_aload_n E dX12_saveSnapshot_11 rfl 0 rfl ?_
  refine ra_iconst E dX12_saveSnapshot_12 ki_1 ?_
  refine pf_X12_4 E fl_X12_37 (by decide) dX12_saveSnapshot_13 ?_
  replace h := h _ rfl
  exact ra_vret E hr dX12_saveSnapshot_16 h
def f_X12_restoreSnapshot  (M : TM) (K : Int32 → TM → Prop) (X : String → TM → Prop) : Prop := f_X12_requireState (bz (M 0 4)) M (fun M1 => vp_in (M1 0 5) 11 ∧ f_X2_copyFrom (27 + 61 * (M1 0 5).toNatClampNeg) 515 M1 (fun M3 => f_X5_clear M3 (fun M4 => vp_in (M4 0 5) 11 ∧ K (M4 (27 + 61 * (M4 0 5).toNatClampNeg) 8) M4))) X
set_option maxRecDepth 100000 in
set_option maxHeartbeats 4000000 in
theorem c_X12_restoreSnapshot {ad : Nat → Nat}  (M : TM) (K : Int32 → TM → Prop) (X : String → TM → Prop) (h : f_X12_restoreSnapshot  M K X) : XI yX12_restoreSnapshot cX12_restoreSnapshot 1 (some .int) 7 1 ad [.ref (ad 0)] M K X := by
  refine XI_of RX12 rfl (by decide +kernel) (Nat.le_of_ble_eq_true rfl) (fun p l e s m below meth c D tc E hr hfl hT => ?_)
  unfold f_X12_restoreSnapshot at h
  refine ra_aload_n E dX12_restoreSnapshot_0 rfl 0 rfl ?_
  refine gf_X12_4 E fl_X12_37 dX12_restoreSnapshot_1 ?_
  refine rx_callVSP (rest := []) E hfl (c_X12_requireState _ _ _ _ h) (lq_X12 _) ct_X12_requireState ml_X12_285 (by decide) rfl rfl (Nat.le_of_ble_eq_true rfl) ⟨Nat.le_of_ble_eq_true rfl, Nat.le_of_ble_eq_true rfl⟩ ⟨Nat.le_of_ble_eq_true rfl, Nat.le_of_ble_eq_true rfl⟩ dX12_restoreSnapshot_4 hT ⟨Nat.le_of_ble_eq_true rfl, Nat.le_of_ble_eq_true rfl⟩ (fun _ _ hx => hx) (fun M1 h => ?_)
  refine ra_aload_n E dX12_restoreSnapshot_7 rfl 0 rfl ?_
  obtain ⟨g2, h⟩ := h
  refine gf_X12_5 E fl_X12_41 dX12_restoreSnapshot_8 ?_
  refine ra_aload_n E dX12_restoreSnapshot_11 rfl 0 rfl ?_
  refine gf_X12_3 E fl_X12_33 dX12_restoreSnapshot_12 ?_
  refine ra_callVV (rest := []) E (c_X2_copyFrom _ (isCanal_of g2) _ isCanal_515 _ _ h) (lq_X2 _) cv_X2_copyFrom ml_X12_258 (by decide) (lm ((isCanal_of g2).add (j := 0) (by decide))) (fun R => ⟨_, cel_canal tc ad (isCanal_of g2) R⟩) rfl rfl rfl (Nat.le_of_ble_eq_true rfl) ⟨Nat.le_of_ble_eq_true rfl, Nat.le_of_ble_eq_true rfl⟩ ⟨Nat.le_of_ble_eq_true rfl, Nat.le_of_ble_eq_true rfl⟩ dX12_restoreSnapshot_15 (fun M3 h => ?_)
  refine ra_aload_n E dX12_restoreSnapshot_18 rfl 0 rfl ?_
  refine gf_X12_2 E fl_X12_26 dX12_restoreSnapshot_19 ?_
  refine ra_callVV (rest := []) E (c_X5_clear _ _ h) (lq_X5 _) cv_X5_clear ml_X12_97 (by decide) (lm (by decide)) (fun R => ⟨_, cel_25 tc ad R⟩) rfl rfl rfl (Nat.le_of_ble_eq_true rfl) ⟨Nat.le_of_ble_eq_true rfl, Nat.le_of_ble_eq_true rfl⟩ ⟨Nat.le_of_ble_eq_true rfl, Nat.le_of_ble_eq_true rfl⟩ dX12_restoreSnapshot_22 (fun M4 h => ?_)
  refine ra_aload_n E dX12_restoreSnapshot_25 rfl 0 rfl ?_
  obtain ⟨g5, h⟩ := h
  refine gf_X12_5 E fl_X12_41 dX12_restoreSnapshot_26 ?_
  refine gf_X2_8 E (isCanal_of g5) fl_X12_109 dX12_restoreSnapshot_29 ?_
  exact rx_iret E hr dX12_restoreSnapshot_32 ⟨Nat.le_of_ble_eq_true rfl, Nat.le_of_ble_eq_true rfl⟩ h
def f_X12_bargeAt (p1 : Int32) (M : TM) (K : Option Nat → TM → Prop) (X : String → TM → Prop) : Prop := f_X12_requireBarge p1 M (fun M1 => vp_in (M1 0 5) 11 ∧ vp_in p1 5 ∧ K (some ((27 + 61 * (M1 0 5).toNatClampNeg) + 21 + 2 * p1.toNatClampNeg)) M1) X
set_option maxRecDepth 100000 in
set_option maxHeartbeats 4000000 in
theorem c_X12_bargeAt {ad : Nat → Nat} (p1 : Int32) (M : TM) (K : Option Nat → TM → Prop) (X : String → TM → Prop) (h : f_X12_bargeAt p1 M K X) : XA yX12_bargeAt cX12_bargeAt 2 (some (.object "NoodleCanal$Barge")) 7 1 ad [.ref (ad 0), .int p1] M K X := by
  refine XA_of RX12 rfl (by decide +kernel) (Nat.le_of_ble_eq_true rfl) (fun p l e s m below meth c D tc E hr hfl hT => ?_)
  unfold f_X12_bargeAt at h
  refine ra_aload_n E dX12_bargeAt_0 rfl 0 rfl ?_
  refine ra_iload_n E dX12_bargeAt_1 rfl 1 rfl ?_
  refine rx_callVVP (rest := []) E hfl (c_X12_requireBarge _ _ _ _ h) (lq_X12 _) cv_X12_requireBarge ml_X12_177 (by decide) (lm (by decide)) (fun R => ⟨_, cel_0 tc ad R⟩) rfl rfl rfl (Nat.le_of_ble_eq_true rfl) ⟨Nat.le_of_ble_eq_true rfl, Nat.le_of_ble_eq_true rfl⟩ ⟨Nat.le_of_ble_eq_true rfl, Nat.le_of_ble_eq_true rfl⟩ dX12_bargeAt_2 hT ⟨Nat.le_of_ble_eq_true rfl, Nat.le_of_ble_eq_true rfl⟩ (fun _ _ hx => hx) (fun M1 h => ?_)
  refine ra_aload_n E dX12_bargeAt_5 rfl 0 rfl ?_
  obtain ⟨g2, h⟩ := h
  refine gf_X12_5 E fl_X12_41 dX12_bargeAt_6 ?_
  refine gf_X2_5 E (isCanal_of g2) fl_X12_374 dX12_bargeAt_9 ?_
  refine ra_iload_n E dX12_bargeAt_12 rfl 1 rfl ?_
  obtain ⟨g3, h⟩ := h
  refine ra_aald E (lm ((isCanal_of g2).add (by decide))) (cel_bars tc ad (isCanal_of g2)) rfl g3 dX12_bargeAt_13 ?_
  exact rx_aret (o := (some ((27 + 61 * (M1 0 5).toNatClampNeg) + 21 + 2 * p1.toNatClampNeg))) E hr dX12_bargeAt_14 ⟨Nat.le_of_ble_eq_true rfl, Nat.le_of_ble_eq_true rfl⟩ h
def f_X12_orderAt (p1 : Int32) (M : TM) (K : Option Nat → TM → Prop) (X : String → TM → Prop) : Prop := f_X12_requireOrder p1 M (fun M1 => vp_in (M1 0 5) 11 ∧ vp_in p1 30 ∧ K (some ((27 + 61 * (M1 0 5).toNatClampNeg) + 31 + p1.toNatClampNeg)) M1) X
set_option maxRecDepth 100000 in
set_option maxHeartbeats 4000000 in
theorem c_X12_orderAt {ad : Nat → Nat} (p1 : Int32) (M : TM) (K : Option Nat → TM → Prop) (X : String → TM → Prop) (h : f_X12_orderAt p1 M K X) : XA yX12_orderAt cX12_orderAt 2 (some (.object "NoodleCanal$Order")) 7 1 ad [.ref (ad 0), .int p1] M K X := by
  refine XA_of RX12 rfl (by decide +kernel) (Nat.le_of_ble_eq_true rfl) (fun p l e s m below meth c D tc E hr hfl hT => ?_)
  unfold f_X12_orderAt at h
  refine ra_aload_n E dX12_orderAt_0 rfl 0 rfl ?_
  refine ra_iload_n E dX12_orderAt_1 rfl 1 rfl ?_
  refine rx_callVVP (rest := []) E hfl (c_X12_requireOrder _ _ _ _ h) (lq_X12 _) cv_X12_requireOrder ml_X12_268 (by decide) (lm (by decide)) (fun R => ⟨_, cel_0 tc ad R⟩) rfl rfl rfl (Nat.le_of_ble_eq_true rfl) ⟨Nat.le_of_ble_eq_true rfl, Nat.le_of_ble_eq_true rfl⟩ ⟨Nat.le_of_ble_eq_true rfl, Nat.le_of_ble_eq_true rfl⟩ dX12_orderAt_2 hT ⟨Nat.le_of_ble_eq_true rfl, Nat.le_of_ble_eq_true rfl⟩ (fun _ _ hx => hx) (fun M1 h => ?_)
  refine ra_aload_n E dX12_orderAt_5 rfl 0 rfl ?_
  obtain ⟨g2, h⟩ := h
  refine gf_X12_5 E fl_X12_41 dX12_orderAt_6 ?_
  refine gf_X2_7 E (isCanal_of g2) fl_X12_378 dX12_orderAt_9 ?_
  refine ra_iload_n E dX12_orderAt_12 rfl 1 rfl ?_
  obtain ⟨g3, h⟩ := h
  refine ra_aald E (lm ((isCanal_of g2).add (by decide))) (cel_ords tc ad (isCanal_of g2)) rfl g3 dX12_orderAt_13 ?_
  exact rx_aret (o := (some ((27 + 61 * (M1 0 5).toNatClampNeg) + 31 + p1.toNatClampNeg))) E hr dX12_orderAt_14 ⟨Nat.le_of_ble_eq_true rfl, Nat.le_of_ble_eq_true rfl⟩ h
def f_J0_length_8abf5 (a0 : Nat) (M : TM) (K : Int32 → TM → Prop) : Prop := f_J0_coder_7d493 a0 M (fun r2 M1 => K ((nI (lenS.getD a0 0)) >>> (r2 &&& 31)) M1)
set_option maxRecDepth 100000 in
set_option maxHeartbeats 4000000 in
theorem c_J0_length_8abf5 {ad : Nat → Nat} (a0 : Nat) (h0 : a0 < nS) (M : TM) (K : Int32 → TM → Prop) (h : f_J0_length_8abf5 a0 M K) : MI yJ0_length_8abf5 cJ0_length_8abf5 1 (some .int) 1 ad [.ref (ad (2200 + a0))] M K := by
  refine MI_of RJ0 rfl (by decide +kernel) (Nat.le_of_ble_eq_true rfl) (fun p l e s m below meth c D tc E hr => ?_)
  unfold f_J0_length_8abf5 at h
  refine ra_aload_n E dJ0_length_8abf5_0 rfl 0 rfl ?_
  refine gf_sval E h0 fl_J0_9 dJ0_length_8abf5_1 ?_
  refine al_sval E h0 dJ0_length_8abf5_4 ?_
  refine ra_aload_n E dJ0_length_8abf5_5 rfl 0 rfl ?_
  refine ra_callIR (rest := [_]) E (c_J0_coder_7d493 _ h0 _ _ h) (lq_J0 _) cv_J0_coder_7d493 ml_J0_335 (by decide) (rv_str E h0) rfl rfl (Nat.le_of_ble_eq_true rfl) ⟨Nat.le_of_ble_eq_true rfl, Nat.le_of_ble_eq_true rfl⟩ ⟨Nat.zero_le _, Nat.zero_le _⟩ dJ0_length_8abf5_6 (fun r2 M1 h => ?_)
  refine ra_ishr E dJ0_length_8abf5_9 ?_
  exact ra_iret E hr dJ0_length_8abf5_10 h
def f_J0_checkIndex_df160 (p0 : Int32) (p1 : Int32) (M : TM) (K : TM → Prop) : Prop := ∀ (v1 : Value), (v1 = .null ∨ ∃ z, v1 = .ref z) → f_J3_checkIndex_8e157 p0 p1 v1 M (fun r4 M3 => K M3)
set_option maxRecDepth 100000 in
set_option maxHeartbeats 4000000 in
theorem c_J0_checkIndex_df160 {ad : Nat → Nat} (p0 : Int32) (p1 : Int32) (M : TM) (K : TM → Prop) (h : f_J0_checkIndex_df160 p0 p1 M K) : MV yJ0_checkIndex_df160 cJ0_checkIndex_df160 2 1 ad [.int p0, .int p1] M K := by
  refine MV_of RJ0 rfl (by decide +kernel) (Nat.le_of_ble_eq_true rfl) (fun p l e s m below meth c D tc E hr => ?_)
  unfold f_J0_checkIndex_df160 at h
  refine ra_iload_n E dJ0_checkIndex_df160_0 rfl 0 rfl ?_
  refine ra_iload_n E dJ0_checkIndex_df160_1 rfl 1 rfl ?_
  refine gs_siob E fl_J0_1053 dJ0_checkIndex_df160_2 (fun v1 k2 => ?_)
  replace h := h v1 k2
  refine ra_callIS (rest := []) E (c_J3_checkIndex_8e157 _ _ _ k2 _ _ h) (lq_J3 _) ct_J3_checkIndex_8e157 ml_J0_1059 (by decide) rfl rfl (Nat.le_of_ble_eq_true rfl) ⟨Nat.le_of_ble_eq_true rfl, Nat.le_of_ble_eq_true rfl⟩ ⟨Nat.zero_le _, Nat.zero_le _⟩ dJ0_checkIndex_df160_5 (fun r4 M3 h => ?_)
  refine ra_pop E dJ0_checkIndex_df160_8 rfl ?_
  exact ra_vret E hr dJ0_checkIndex_df160_9 h
def f_J1_charAt_3b067 (a0 : Nat) (p1 : Int32) (M : TM) (K : Int32 → TM → Prop) : Prop := f_J0_checkIndex_df160 p1 (nI (lenS.getD a0 0)) M (fun M1 => vp_in p1 (lenS.getD a0 0) ∧ K (((((bytS.getD a0 []).getD p1.toNatClampNeg 0) &&& (255 : Int32)).toUInt32 % 65536).toInt32) M1)
set_option maxRecDepth 100000 in
set_option maxHeartbeats 4000000 in
theorem c_J1_charAt_3b067 {ad : Nat → Nat} (a0 : Nat) (h0 : a0 < nS) (p1 : Int32) (M : TM) (K : Int32 → TM → Prop) (h : f_J1_charAt_3b067 a0 p1 M K) : MI yJ1_charAt_3b067 cJ1_charAt_3b067 2 (some .char) 2 ad [.ref (ad (2300 + a0)), .int p1] M (fun r M' => narrow .char (.int r) = .int r ∧ K r M') := by
  refine MI_of RJ1 rfl (by decide +kernel) (Nat.le_of_ble_eq_true rfl) (fun p l e s m below meth c D tc E hr => ?_)
  unfold f_J1_charAt_3b067 at h
  refine ra_iload_n E dJ1_charAt_3b067_0 rfl 1 rfl ?_
  refine ra_aload_n E dJ1_charAt_3b067_1 rfl 0 rfl ?_
  refine al_sval E h0 dJ1_charAt_3b067_2 ?_
  refine ra_callVS (rest := []) E (c_J0_checkIndex_df160 _ _ _ _ h) (lq_J0 _) ct_J0_checkIndex_df160 ml_J1_9 (by decide) rfl rfl (Nat.le_of_ble_eq_true rfl) ⟨Nat.le_of_ble_eq_true rfl, Nat.le_of_ble_eq_true rfl⟩ ⟨Nat.zero_le _, Nat.zero_le _⟩ dJ1_charAt_3b067_3 (fun M1 h => ?_)
  refine ra_aload_n E dJ1_charAt_3b067_6 rfl 0 rfl ?_
  refine ra_iload_n E dJ1_charAt_3b067_7 rfl 1 rfl ?_
  obtain ⟨g2, h⟩ := h
  refine ba_sval E h0 g2 dJ1_charAt_3b067_8 ?_
  refine ra_sipush E dJ1_charAt_3b067_9 ks_255 ?_
  refine ra_iand E dJ1_charAt_3b067_12 ?_
  refine ra_i2c E dJ1_charAt_3b067_13 rfl ?_
  exact ra_zret E hr (pk_nc _) dJ1_charAt_3b067_14 ⟨pk_nc _, h⟩
def f_X13_addBarge (p1 : Int32) (p2 : Int32) (p3 : Int32) (p4 : Int32) (M : TM) (K : TM → Prop) : Prop := vp_in (M 699 6) 2 ∧ vp_in (2 : Int32) 377 ∧ vp_in (M 699 6) 2 ∧ vp_in (2 : Int32) 377 ∧ vp_in (2 : Int32) 377 ∧ ∀ M6, M6 = u2 M (700 + (M 699 6).toNatClampNeg) (2 : Int32).toNatClampNeg ((M (700 + (M 699 6).toNatClampNeg) (2 : Int32).toNatClampNeg) + (1 : Int32)) → f_X13_lay (M (700 + (M 699 6).toNatClampNeg) (2 : Int32).toNatClampNeg) (0 : Int32) p1 M6 (fun M7 => f_X13_lay (M (700 + (M 699 6).toNatClampNeg) (2 : Int32).toNatClampNeg) (1 : Int32) p1 M7 (fun M8 => f_X13_lay (M (700 + (M 699 6).toNatClampNeg) (2 : Int32).toNatClampNeg) (2 : Int32) p2 M8 (fun M9 => f_X13_lay (M (700 + (M 699 6).toNatClampNeg) (2 : Int32).toNatClampNeg) (3 : Int32) p3 M9 (fun M10 => f_X13_lay (M (700 + (M 699 6).toNatClampNeg) (2 : Int32).toNatClampNeg) (4 : Int32) p4 M10 (fun M11 => vp_in (M11 699 6) 2 ∧ vp_in (7 : Int32) 377 ∧ vp_in (7 : Int32) 377 ∧ ∀ M15, M15 = u2 M11 (700 + (M11 699 6).toNatClampNeg) (7 : Int32).toNatClampNeg ((M11 (700 + (M11 699 6).toNatClampNeg) (7 : Int32).toNatClampNeg) + p4) → K M15)))))
set_option maxRecDepth 100000 in
set_option maxHeartbeats 4000000 in
theorem c_X13_addBarge {ad : Nat → Nat} (p1 : Int32) (p2 : Int32) (p3 : Int32) (p4 : Int32) (M : TM) (K : TM → Prop) (h : f_X13_addBarge p1 p2 p3 p4 M K) : MV yX13_addBarge cX13_addBarge 6 1 ad [.ref (ad 699), .int p1, .int p2, .int p3, .int p4] M K := by
  refine MV_of RX13 rfl (by decide +kernel) (Nat.le_of_ble_eq_true rfl) (fun p l e s m below meth c D tc E hr => ?_)
  unfold f_X13_addBarge at h
  refine ra_aload_n E dX13_addBarge_0 rfl 0 rfl ?_
  obtain ⟨g1, h⟩ := h
  refine gf_X13_6 E lm13 fl_X13_28 dX13_addBarge_1 ?_
  refine ra_iconst E dX13_addBarge_4 ki_2 ?_
  obtain ⟨g2, h⟩ := h
  refine ra_iald E (lmM (isRow_of g1).lt) (cel_row tc ad (isRow_of g1)) g2 dX13_addBarge_5 ?_
  refine ra_istore (L' := [(5, _), (0, _), (1, _), (2, _), (3, _), (4, _)]) E dX13_addBarge_6 (by decide) rfl ?_
  refine ra_aload_n E dX13_addBarge_8 rfl 1 rfl ?_
  obtain ⟨g3, h⟩ := h
  refine gf_X13_6 E lm13 fl_X13_28 dX13_addBarge_9 ?_
  refine ra_iconst E dX13_addBarge_12 ki_2 ?_
  refine ra_dup2 E dX13_addBarge_13 rfl rfl ?_
  obtain ⟨g4, h⟩ := h
  refine ra_iald E (lmM (isRow_of g3).lt) (cel_row tc ad (isRow_of g3)) g4 dX13_addBarge_14 ?_
  refine ra_iconst E dX13_addBarge_15 ki_1 ?_
  refine ra_iadd E dX13_addBarge_16 ?_
  obtain ⟨g5, h⟩ := h
  refine ra_iast E (lmM (isRow_of g3).lt) (cel_row tc ad (isRow_of g3)) g5 dX13_addBarge_17 ?_
  replace h := h _ rfl
  refine ra_aload_n E dX13_addBarge_18 rfl 1 rfl ?_
  refine ra_iload E dX13_addBarge_19 0 rfl ?_
  refine ra_iconst E dX13_addBarge_21 ki_0 ?_
  refine ra_iload_n E dX13_addBarge_22 rfl 2 rfl ?_
  refine ra_callVV (rest := []) E (c_X13_lay _ _ _ _ _ h) lq_13 cv_X13_lay ml_X13_86 (by decide) (lmM (by decide)) (fun R => ⟨_, cel_699 tc ad R⟩) rfl rfl rfl (Nat.le_of_ble_eq_true rfl) ⟨Nat.le_of_ble_eq_true rfl, Nat.le_of_ble_eq_true rfl⟩ ⟨Nat.zero_le _, Nat.zero_le _⟩ dX13_addBarge_23 (fun M7 h => ?_)
  refine ra_aload_n E dX13_addBarge_26 rfl 1 rfl ?_
  refine ra_iload E dX13_addBarge_27 0 rfl ?_
  refine ra_iconst E dX13_addBarge_29 ki_1 ?_
  refine ra_iload_n E dX13_addBarge_30 rfl 2 rfl ?_
  refine ra_callVV (rest := []) E (c_X13_lay _ _ _ _ _ h) lq_13 cv_X13_lay ml_X13_86 (by decide) (lmM (by decide)) (fun R => ⟨_, cel_699 tc ad R⟩) rfl rfl rfl (Nat.le_of_ble_eq_true rfl) ⟨Nat.le_of_ble_eq_true rfl, Nat.le_of_ble_eq_true rfl⟩ ⟨Nat.zero_le _, Nat.zero_le _⟩ dX13_addBarge_31 (fun M8 h => ?_)
  refine ra_aload_n E dX13_addBarge_34 rfl 1 rfl ?_
  refine ra_iload E dX13_addBarge_35 0 rfl ?_
  refine ra_iconst E dX13_addBarge_37 ki_2 ?_
  refine ra_iload_n E dX13_addBarge_38 rfl 3 rfl ?_
  refine ra_callVV (rest := []) E (c_X13_lay _ _ _ _ _ h) lq_13 cv_X13_lay ml_X13_86 (by decide) (lmM (by decide)) (fun R => ⟨_, cel_699 tc ad R⟩) rfl rfl rfl (Nat.le_of_ble_eq_true rfl) ⟨Nat.le_of_ble_eq_true rfl, Nat.le_of_ble_eq_true rfl⟩ ⟨Nat.zero_le _, Nat.zero_le _⟩ dX13_addBarge_39 (fun M9 h => ?_)
  refine ra_aload_n E dX13_addBarge_42 rfl 1 rfl ?_
  refine ra_iload E dX13_addBarge_43 0 rfl ?_
  refine ra_iconst E dX13_addBarge_45 ki_3 ?_
  refine ra_iload_n E dX13_addBarge_46 rfl 4 rfl ?_
  refine ra_callVV (rest := []) E (c_X13_lay _ _ _ _ _ h) lq_13 cv_X13_lay ml_X13_86 (by decide) (lmM (by decide)) (fun R => ⟨_, cel_699 tc ad R⟩) rfl rfl rfl (Nat.le_of_ble_eq_true rfl) ⟨Nat.le_of_ble_eq_true rfl, Nat.le_of_ble_eq_true rfl⟩ ⟨Nat.zero_le _, Nat.zero_le _⟩ dX13_addBarge_47 (fun M10 h => ?_)
  refine ra_aload_n E dX13_addBarge_50 rfl 1 rfl ?_
  refine ra_iload E dX13_addBarge_51 0 rfl ?_
  refine ra_iconst E dX13_addBarge_53 ki_4 ?_
  refine ra_iload E dX13_addBarge_54 5 rfl ?_
  refine ra_callVV (rest := []) E (c_X13_lay _ _ _ _ _ h) lq_13 cv_X13_lay ml_X13_86 (by decide) (lmM (by decide)) (fun R => ⟨_, cel_699 tc ad R⟩) rfl rfl rfl (Nat.le_of_ble_eq_true rfl) ⟨Nat.le_of_ble_eq_true rfl, Nat.le_of_ble_eq_true rfl⟩ ⟨Nat.zero_le _, Nat.zero_le _⟩ dX13_addBarge_56 (fun M11 h => ?_)
  refine ra_aload_n E dX13_addBarge_59 rfl 1 rfl ?_
  obtain ⟨g12, h⟩ := h
  refine gf_X13_6 E lm13 fl_X13_28 dX13_addBarge_60 ?_
  refine ra_bipush E dX13_addBarge_63 kb_7 ?_
  refine ra_dup2 E dX13_addBarge_65 rfl rfl ?_
  obtain ⟨g13, h⟩ := h
  refine ra_iald E (lmM (isRow_of g12).lt) (cel_row tc ad (isRow_of g12)) g13 dX13_addBarge_66 ?_
  refine ra_iload E dX13_addBarge_67 5 rfl ?_
  refine ra_iadd E dX13_addBarge_69 ?_
  obtain ⟨g14, h⟩ := h
  refine ra_iast E (lmM (isRow_of g12).lt) (cel_row tc ad (isRow_of g12)) g14 dX13_addBarge_70 ?_
  replace h := h _ rfl
  exact ra_vret E hr dX13_addBarge_71 h
def f_X13_addOrder (p1 : Int32) (p2 : Int32) (p3 : Int32) (p4 : Int32) (M : TM) (K : TM → Prop) : Prop := vp_in (M 699 6) 2 ∧ vp_in (3 : Int32) 377 ∧ vp_in (M 699 6) 2 ∧ vp_in (3 : Int32) 377 ∧ vp_in (3 : Int32) 377 ∧ ∀ M6, M6 = u2 M (700 + (M 699 6).toNatClampNeg) (3 : Int32).toNatClampNeg ((M (700 + (M 699 6).toNatClampNeg) (3 : Int32).toNatClampNeg) + (1 : Int32)) → f_X13_layOrder (M (700 + (M 699 6).toNatClampNeg) (3 : Int32).toNatClampNeg) (0 : Int32) p1 M6 (fun M7 => f_X13_layOrder (M (700 + (M 699 6).toNatClampNeg) (3 : Int32).toNatClampNeg) (1 : Int32) p2 M7 (fun M8 => f_X13_layOrder (M (700 + (M 699 6).toNatClampNeg) (3 : Int32).toNatClampNeg) (2 : Int32) p3 M8 (fun M9 => vp_in (M9 699 6) 2 ∧ vp_in (0 : Int32) 377 ∧ f_X13_layOrder (M (700 + (M 699 6).toNatClampNeg) (3 : Int32).toNatClampNeg) (3 : Int32) (((M9 (700 + (M9 699 6).toNatClampNeg) (0 : Int32).toNatClampNeg) + p4) - (1 : Int32)) M9 (fun M12 => f_X13_layOrder (M (700 + (M 699 6).toNatClampNeg) (3 : Int32).toNatClampNeg) (4 : Int32) (0 : Int32) M12 (fun M13 => f_X13_layOrder (M (700 + (M 699 6).toNatClampNeg) (3 : Int32).toNatClampNeg) (5 : Int32) (-1 : Int32) M13 (fun M14 => f_X13_layOrder (M (700 + (M 699 6).toNatClampNeg) (3 : Int32).toNatClampNeg) (6 : Int32) (0 : Int32) M14 (fun M15 => f_X13_layOrder (M (700 + (M 699 6).toNatClampNeg) (3 : Int32).toNatClampNeg) (7 : Int32) p3 M15 (fun M16 => K M16))))))))
set_option maxRecDepth 100000 in
set_option maxHeartbeats 4000000 in
theorem c_X13_addOrder {ad : Nat → Nat} (p1 : Int32) (p2 : Int32) (p3 : Int32) (p4 : Int32) (M : TM) (K : TM → Prop) (h : f_X13_addOrder p1 p2 p3 p4 M K) : MV yX13_addOrder cX13_addOrder 6 1 ad [.ref (ad 699), .int p1, .int p2, .int p3, .int p4] M K := by
  refine MV_of RX13 rfl (by decide +kernel) (Nat.le_of_ble_eq_true rfl) (fun p l e s m below meth c D tc E hr => ?_)
  unfold f_X13_addOrder at h
  refine ra_aload_n E dX13_addOrder_0 rfl 0 rfl ?_
  obtain ⟨g1, h⟩ := h
  refine gf_X13_6 E lm13 fl_X13_28 dX13_addOrder_1 ?_
  refine ra_iconst E dX13_addOrder_4 ki_3 ?_
  obtain ⟨g2, h⟩ := h
  refine ra_iald E (lmM (isRow_of g1).lt) (cel_row tc ad (isRow_of g1)) g2 dX13_addOrder_5 ?_
  refine ra_istore (L' := [(5, _), (0, _), (1, _), (2, _), (3, _), (4, _)]) E dX13_addOrder_6 (by decide) rfl ?_
  refine ra_aload_n E dX13_addOrder_8 rfl 1 rfl ?_
  obtain ⟨g3, h⟩ := h
  refine gf_X13_6 E lm13 fl_X13_28 dX13_addOrder_9 ?_
  refine ra_iconst E dX13_addOrder_12 ki_3 ?_
  refine ra_dup2 E dX13_addOrder_13 rfl rfl ?_
  obtain ⟨g4, h⟩ := h
  refine ra_iald E (lmM (isRow_of g3).lt) (cel_row tc ad (isRow_of g3)) g4 dX13_addOrder_14 ?_
  refine ra_iconst E dX13_addOrder_15 ki_1 ?_
  refine ra_iadd E dX13_addOrder_16 ?_
  obtain ⟨g5, h⟩ := h
  refine ra_iast E (lmM (isRow_of g3).lt) (cel_row tc ad (isRow_of g3)) g5 dX13_addOrder_17 ?_
  replace h := h _ rfl
  refine ra_aload_n E dX13_addOrder_18 rfl 1 rfl ?_
  refine ra_iload E dX13_addOrder_19 0 rfl ?_
  refine ra_iconst E dX13_addOrder_21 ki_0 ?_
  refine ra_iload_n E dX13_addOrder_22 rfl 2 rfl ?_
  refine ra_callVV (rest := []) E (c_X13_layOrder _ _ _ _ _ h) lq_13 cv_X13_layOrder ml_X13_90 (by decide) (lmM (by decide)) (fun R => ⟨_, cel_699 tc ad R⟩) rfl rfl rfl (Nat.le_of_ble_eq_true rfl) ⟨Nat.le_of_ble_eq_true rfl, Nat.le_of_ble_eq_true rfl⟩ ⟨Nat.zero_le _, Nat.zero_le _⟩ dX13_addOrder_23 (fun M7 h => ?_)
  refine ra_aload_n E dX13_addOrder_26 rfl 1 rfl ?_
  refine ra_iload E dX13_addOrder_27 0 rfl ?_
  refine ra_iconst E dX13_addOrder_29 ki_1 ?_
  refine ra_iload_n E dX13_addOrder_30 rfl 3 rfl ?_
  refine ra_callVV (rest := []) E (c_X13_layOrder _ _ _ _ _ h) lq_13 cv_X13_layOrder ml_X13_90 (by decide) (lmM (by decide)) (fun R => ⟨_, cel_699 tc ad R⟩) rfl rfl rfl (Nat.le_of_ble_eq_true rfl) ⟨Nat.le_of_ble_eq_true rfl, Nat.le_of_ble_eq_true rfl⟩ ⟨Nat.zero_le _, Nat.zero_le _⟩ dX13_addOrder_31 (fun M8 h => ?_)
  refine ra_aload_n E dX13_addOrder_34 rfl 1 rfl ?_
  refine ra_iload E dX13_addOrder_35 0 rfl ?_
  refine ra_iconst E dX13_addOrder_37 ki_2 ?_
  refine ra_iload_n E dX13_addOrder_38 rfl 4 rfl ?_
  refine ra_callVV (rest := []) E (c_X13_layOrder _ _ _ _ _ h) lq_13 cv_X13_layOrder ml_X13_90 (by decide) (lmM (by decide)) (fun R => ⟨_, cel_699 tc ad R⟩) rfl rfl rfl (Nat.le_of_ble_eq_true rfl) ⟨Nat.le_of_ble_eq_true rfl, Nat.le_of_ble_eq_true rfl⟩ ⟨Nat.zero_le _, Nat.zero_le _⟩ dX13_addOrder_39 (fun M9 h => ?_)
  refine ra_aload_n E dX13_addOrder_42 rfl 1 rfl ?_
  refine ra_iload E dX13_addOrder_43 0 rfl ?_
  refine ra_iconst E dX13_addOrder_45 ki_3 ?_
  refine ra_aload_n E dX13_addOrder_46 rfl 1 rfl ?_
  obtain ⟨g10, h⟩ := h
  refine gf_X13_6 E lm13 fl_X13_28 dX13_addOrder_47 ?_
  refine ra_iconst E dX13_addOrder_50 ki_0 ?_
  obtain ⟨g11, h⟩ := h
  refine ra_iald E (lmM (isRow_of g10).lt) (cel_row tc ad (isRow_of g10)) g11 dX13_addOrder_51 ?_
  refine ra_iload E dX13_addOrder_52 5 rfl ?_
  refine ra_iadd E dX13_addOrder_54 ?_
  refine ra_iconst E dX13_addOrder_55 ki_1 ?_
  refine ra_isub E dX13_addOrder_56 ?_
  refine ra_callVV (rest := []) E (c_X13_layOrder _ _ _ _ _ h) lq_13 cv_X13_layOrder ml_X13_90 (by decide) (lmM (by decide)) (fun R => ⟨_, cel_699 tc ad R⟩) rfl rfl rfl (Nat.le_of_ble_eq_true rfl) ⟨Nat.le_of_ble_eq_true rfl, Nat.le_of_ble_eq_true rfl⟩ ⟨Nat.zero_le _, Nat.zero_le _⟩ dX13_addOrder_57 (fun M12 h => ?_)
  refine ra_aload_n E dX13_addOrder_60 rfl 1 rfl ?_
  refine ra_iload E dX13_addOrder_61 0 rfl ?_
  refine ra_iconst E dX13_addOrder_63 ki_4 ?_
  refine ra_iconst E dX13_addOrder_64 ki_0 ?_
  refine ra_callVV (rest := []) E (c_X13_layOrder _ _ _ _ _ h) lq_13 cv_X13_layOrder ml_X13_90 (by decide) (lmM (by decide)) (fun R => ⟨_, cel_699 tc ad R⟩) rfl rfl rfl (Nat.le_of_ble_eq_true rfl) ⟨Nat.le_of_ble_eq_true rfl, Nat.le_of_ble_eq_true rfl⟩ ⟨Nat.zero_le _, Nat.zero_le _⟩ dX13_addOrder_65 (fun M13 h => ?_)
  refine ra_aload_n E dX13_addOrder_68 rfl 1 rfl ?_
  refine ra_iload E dX13_addOrder_69 0 rfl ?_
  refine ra_iconst E dX13_addOrder_71 ki_5 ?_
  refine ra_iconst E dX13_addOrder_72 ki_m1 ?_
  refine ra_callVV (rest := []) E (c_X13_layOrder _ _ _ _ _ h) lq_13 cv_X13_layOrder ml_X13_90 (by decide) (lmM (by decide)) (fun R => ⟨_, cel_699 tc ad R⟩) rfl rfl rfl (Nat.le_of_ble_eq_true rfl) ⟨Nat.le_of_ble_eq_true rfl, Nat.le_of_ble_eq_true rfl⟩ ⟨Nat.zero_le _, Nat.zero_le _⟩ dX13_addOrder_73 (fun M14 h => ?_)
  refine ra_aload_n E dX13_addOrder_76 rfl 1 rfl ?_
  refine ra_iload E dX13_addOrder_77 0 rfl ?_
  refine ra_bipush E dX13_addOrder_79 kb_6 ?_
  refine ra_iconst E dX13_addOrder_81 ki_0 ?_
  refine ra_callVV (rest := []) E (c_X13_layOrder _ _ _ _ _ h) lq_13 cv_X13_layOrder ml_X13_90 (by decide) (lmM (by decide)) (fun R => ⟨_, cel_699 tc ad R⟩) rfl rfl rfl (Nat.le_of_ble_eq_true rfl) ⟨Nat.le_of_ble_eq_true rfl, Nat.le_of_ble_eq_true rfl⟩ ⟨Nat.zero_le _, Nat.zero_le _⟩ dX13_addOrder_82 (fun M15 h => ?_)
  refine ra_aload_n E dX13_addOrder_85 rfl 1 rfl ?_
  refine ra_iload E dX13_addOrder_86 0 rfl ?_
  refine ra_bipush E dX13_addOrder_88 kb_7 ?_
  refine ra_iload_n E dX13_addOrder_90 rfl 4 rfl ?_
  refine ra_callVV (rest := []) E (c_X13_layOrder _ _ _ _ _ h) lq_13 cv_X13_layOrder ml_X13_90 (by decide) (lmM (by decide)) (fun R => ⟨_, cel_699 tc ad R⟩) rfl rfl rfl (Nat.le_of_ble_eq_true rfl) ⟨Nat.le_of_ble_eq_true rfl, Nat.le_of_ble_eq_true rfl⟩ ⟨Nat.zero_le _, Nat.zero_le _⟩ dX13_addOrder_91 (fun M16 h => ?_)
  exact ra_vret E hr dX13_addOrder_94 h
def f_X13_doOrder (p1 : Int32) (p2 : Int32) (p3 : Int32) (p4 : Int32) (M : TM) (K : Int32 → TM → Prop) : Prop := f_X13_isPlace p1 M (fun r2 M1 => ((¬ r2 = 0 → vp_in (M1 699 6) 2 ∧ vp_in (3 : Int32) 377 ∧ ((¬ (M1 (700 + (M1 699 6).toNatClampNeg) (3 : Int32).toNatClampNeg) = (30 : Int32) → f_X13_addOrder p1 p2 p3 p4 M1 (fun M8 => vp_in (M8 699 6) 2 ∧ vp_in (3 : Int32) 377 ∧ ∀ M11, M11 = u2 M8 699 10 ((M8 (700 + (M8 699 6).toNatClampNeg) (3 : Int32).toNatClampNeg) - (1 : Int32)) → K (0 : Int32) M11)) ∧ ((M1 (700 + (M1 699 6).toNatClampNeg) (3 : Int32).toNatClampNeg) = (30 : Int32) → K (3 : Int32) M1))) ∧ (r2 = 0 → K (1 : Int32) M1)))
set_option maxRecDepth 100000 in
set_option maxHeartbeats 4000000 in
theorem c_X13_doOrder {ad : Nat → Nat} (p1 : Int32) (p2 : Int32) (p3 : Int32) (p4 : Int32) (M : TM) (K : Int32 → TM → Prop) (h : f_X13_doOrder p1 p2 p3 p4 M K) : MI yX13_doOrder cX13_doOrder 5 (some .int) 2 ad [.ref (ad 699), .int p1, .int p2, .int p3, .int p4] M K := by
  refine MI_of RX13 rfl (by decide +kernel) (Nat.le_of_ble_eq_true rfl) (fun p l e s m below meth c D tc E hr => ?_)
  unfold f_X13_doOrder at h
  refine ra_aload_n E dX13_doOrder_0 rfl 0 rfl ?_
  refine ra_iload_n E dX13_doOrder_1 rfl 1 rfl ?_
  refine ra_callIV (rest := []) E (c_X13_isPlace _ _ _ h) lq_13 cv_X13_isPlace ml_X13_131 (by decide) (lmM (by decide)) (fun R => ⟨_, cel_699 tc ad R⟩) rfl rfl rfl (Nat.le_of_ble_eq_true rfl) ⟨Nat.le_of_ble_eq_true rfl, Nat.le_of_ble_eq_true rfl⟩ ⟨Nat.zero_le _, Nat.zero_le _⟩ dX13_doOrder_2 (fun r2 M1 h => ?_)
  obtain ⟨b3, h⟩ := h
  refine ra_if_ne (tgt := 10) E dX13_doOrder_5 (by decide) (fun q4 => ?_) (fun q4 => ?_)
  · replace h := h.1 q4
    refine ra_aload_n E dX13_doOrder_10 rfl 0 rfl ?_
    obtain ⟨g5, h⟩ := h
    refine gf_X13_6 E lm13 fl_X13_28 dX13_doOrder_11 ?_
    refine ra_iconst E dX13_doOrder_14 ki_3 ?_
    obtain ⟨g6, h⟩ := h
    refine ra_iald E (lmM (isRow_of g5).lt) (cel_row tc ad (isRow_of g5)) g6 dX13_doOrder_15 ?_
    refine ra_bipush E dX13_doOrder_16 kb_30 ?_
    refine ra_icmp_ne (tgt := 23) E dX13_doOrder_18 (by decide) (fun q7 => ?_) (fun q7 => ?_)
    · replace h := h.1 q7
      refine ra_aload_n E dX13_doOrder_23 rfl 0 rfl ?_
      refine ra_iload_n E dX13_doOrder_24 rfl 1 rfl ?_
      refine ra_iload_n E dX13_doOrder_25 rfl 2 rfl ?_
      refine ra_iload_n E dX13_doOrder_26 rfl 3 rfl ?_
      refine ra_iload E dX13_doOrder_27 4 rfl ?_
      refine ra_callVV (rest := []) E (c_X13_addOrder _ _ _ _ _ _ h) lq_13 cv_X13_addOrder ml_X13_76 (by decide) (lmM (by decide)) (fun R => ⟨_, cel_699 tc ad R⟩) rfl rfl rfl (Nat.le_of_ble_eq_true rfl) ⟨Nat.le_of_ble_eq_true rfl, Nat.le_of_ble_eq_true rfl⟩ ⟨Nat.zero_le _, Nat.zero_le _⟩ dX13_doOrder_29 (fun M8 h => ?_)
      refine ra_aload_n E dX13_doOrder_32 rfl 0 rfl ?_
      refine ra_aload_n E dX13_doOrder_33 rfl 0 rfl ?_
      obtain ⟨g9, h⟩ := h
      refine gf_X13_6 E lm13 fl_X13_28 dX13_doOrder_34 ?_
      refine ra_iconst E dX13_doOrder_37 ki_3 ?_
      obtain ⟨g10, h⟩ := h
      refine ra_iald E (lmM (isRow_of g9).lt) (cel_row tc ad (isRow_of g9)) g10 dX13_doOrder_38 ?_
      refine ra_iconst E dX13_doOrder_39 ki_1 ?_
      refine ra_isub E dX13_doOrder_40 ?_
      refine pf_X13_10 E lm13 fl_X13_245 dX13_doOrder_41 ?_
      replace h := h _ rfl
      refine ra_iconst E dX13_doOrder_44 ki_0 ?_
      exact ra_iret E hr dX13_doOrder_45 h
    · replace h := h.2 q7
      refine ra_iconst E dX13_doOrder_21 ki_3 ?_
      exact ra_iret E hr dX13_doOrder_22 h
  · replace h := h.2 q4
    refine ra_iconst E dX13_doOrder_8 ki_1 ?_
    exact ra_iret E hr dX13_doOrder_9 h
def f_X13_makeOrder_L36 (p1 : Int32) (p2 : Int32) (p3 : Int32) (p4 : Int32) (K : Int32 → TM → Prop) (x1 : Int32) (x2 : Int32) (x3 : Int32) (x4 : Int32) (z0 : Int32) (M : TM) : Prop := f_X13_isPlace x1 M (fun r6 M5 => f_X13_lacksBoth r6 z0 M5 (fun r9 M8 => ((r9 = 0 → f_X13_keep M8 (fun M12 => f_X13_doOrder x1 x2 x3 x4 M12 (fun r14 M13 => f_X13_ends r14 M13 (fun r16 M15 => K r16 M15)))) ∧ (¬ r9 = 0 → K (0 : Int32) M8))))
set_option maxRecDepth 100000 in
set_option maxHeartbeats 4000000 in
theorem l_X13_makeOrder_L36 {p : Program} {l : Launch} {e : Env} {s : State} {m : MethodId} {args : Array Value} {below : List Frame} {meth : Method} {c : Code} {D : va_G} {tc : Nat → ClassId} {ad : Nat → Nat} (p1 : Int32) (p2 : Int32) (p3 : Int32) (p4 : Int32) {K : Int32 → TM → Prop} (E : Ev p s m args meth c D tc ad RX13 cX13_makeOrder 6) (hr : meth.sig.returnType = (some .int)) : ∀ (x1 : Int32) (x2 : Int32) (x3 : Int32) (x4 : Int32) (z0 : Int32) (M : TM) , f_X13_makeOrder_L36 p1 p2 p3 p4 K x1 x2 x3 x4 z0 M → Wa p l e (rmD 4) s m args below meth c 0 0 (MQ below (va_Qi K (EndW D tc ad) (A0 ad s.heap.size)) args s 0 0 (A0 ad s.heap.size)) D tc ad 6 M 36 [(0, .ref (ad 699)), (1, .int x1), (2, .int x2), (3, .int x3), (4, .int x4)] [.int z0] := by
  intro x1 x2 x3 x4 z0 M  h
  unfold f_X13_makeOrder_L36 at h
  refine ra_istore (L' := [(5, _), (0, _), (1, _), (2, _), (3, _), (4, _)]) E dX13_makeOrder_36 (by decide) rfl ?_
  refine ra_aload_n E dX13_makeOrder_38 rfl 1 rfl ?_
  refine ra_aload_n E dX13_makeOrder_39 rfl 1 rfl ?_
  refine ra_iload_n E dX13_makeOrder_40 rfl 2 rfl ?_
  refine ra_callIV (rest := [_]) E (c_X13_isPlace _ _ _ h) lq_13 cv_X13_isPlace ml_X13_131 (by decide) (lmM (by decide)) (fun R => ⟨_, cel_699 tc ad R⟩) rfl rfl rfl (Nat.le_of_ble_eq_true rfl) ⟨Nat.le_of_ble_eq_true rfl, Nat.le_of_ble_eq_true rfl⟩ ⟨Nat.zero_le _, Nat.zero_le _⟩ dX13_makeOrder_41 (fun r6 M5 h => ?_)
  obtain ⟨b7, h⟩ := h
  refine ra_iload E dX13_makeOrder_44 0 rfl ?_
  refine ra_callIV (rest := []) E (c_X13_lacksBoth _ _ _ _ h) lq_13 cv_X13_lacksBoth ml_X13_263 (by decide) (lmM (by decide)) (fun R => ⟨_, cel_699 tc ad R⟩) rfl rfl rfl (Nat.le_of_ble_eq_true rfl) ⟨Nat.le_of_ble_eq_true rfl, Nat.le_of_ble_eq_true rfl⟩ ⟨Nat.zero_le _, Nat.zero_le _⟩ dX13_makeOrder_46 (fun r9 M8 h => ?_)
  obtain ⟨b10, h⟩ := h
  refine ra_if_eq (tgt := 54) E dX13_makeOrder_49 (by decide) (fun q11 => ?_) (fun q11 => ?_)
  · replace h := h.1 q11
    refine ra_aload_n E dX13_makeOrder_54 rfl 1 rfl ?_
    refine ra_callVV (rest := []) E (c_X13_keep _ _ h) lq_13 cv_X13_keep ml_X13_254 (by decide) (lmM (by decide)) (fun R => ⟨_, cel_699 tc ad R⟩) rfl rfl rfl (Nat.le_of_ble_eq_true rfl) ⟨Nat.le_of_ble_eq_true rfl, Nat.le_of_ble_eq_true rfl⟩ ⟨Nat.zero_le _, Nat.zero_le _⟩ dX13_makeOrder_55 (fun M12 h => ?_)
    refine ra_aload_n E dX13_makeOrder_58 rfl 1 rfl ?_
    refine ra_aload_n E dX13_makeOrder_59 rfl 1 rfl ?_
    refine ra_iload_n E dX13_makeOrder_60 rfl 2 rfl ?_
    refine ra_iload_n E dX13_makeOrder_61 rfl 3 rfl ?_
    refine ra_iload_n E dX13_makeOrder_62 rfl 4 rfl ?_
    refine ra_iload E dX13_makeOrder_63 5 rfl ?_
    refine ra_callIV (rest := [_]) E (c_X13_doOrder _ _ _ _ _ _ h) lq_13 cv_X13_doOrder ml_X13_267 (by decide) (lmM (by decide)) (fun R => ⟨_, cel_699 tc ad R⟩) rfl rfl rfl (Nat.le_of_ble_eq_true rfl) ⟨Nat.le_of_ble_eq_true rfl, Nat.le_of_ble_eq_true rfl⟩ ⟨Nat.zero_le _, Nat.zero_le _⟩ dX13_makeOrder_65 (fun r14 M13 h => ?_)
    refine ra_callIV (rest := []) E (c_X13_ends _ _ _ h) lq_13 cv_X13_ends ml_X13_260 (by decide) (lmM (by decide)) (fun R => ⟨_, cel_699 tc ad R⟩) rfl rfl rfl (Nat.le_of_ble_eq_true rfl) ⟨Nat.le_of_ble_eq_true rfl, Nat.le_of_ble_eq_true rfl⟩ ⟨Nat.zero_le _, Nat.zero_le _⟩ dX13_makeOrder_68 (fun r16 M15 h => ?_)
    exact ra_iret E hr dX13_makeOrder_71 h
  · replace h := h.2 q11
    refine ra_iconst E dX13_makeOrder_52 ki_0 ?_
    exact ra_iret E hr dX13_makeOrder_53 h
def f_X13_makeOrder_L35 (p1 : Int32) (p2 : Int32) (p3 : Int32) (p4 : Int32) (K : Int32 → TM → Prop) (x1 : Int32) (x2 : Int32) (x3 : Int32) (x4 : Int32) (M : TM) : Prop := f_X13_makeOrder_L36 p1 p2 p3 p4 K x1 x2 x3 x4 (0 : Int32) M
set_option maxRecDepth 100000 in
set_option maxHeartbeats 4000000 in
theorem l_X13_makeOrder_L35 {p : Program} {l : Launch} {e : Env} {s : State} {m : MethodId} {args : Array Value} {below : List Frame} {meth : Method} {c : Code} {D : va_G} {tc : Nat → ClassId} {ad : Nat → Nat} (p1 : Int32) (p2 : Int32) (p3 : Int32) (p4 : Int32) {K : Int32 → TM → Prop} (E : Ev p s m args meth c D tc ad RX13 cX13_makeOrder 6) (hr : meth.sig.returnType = (some .int)) : ∀ (x1 : Int32) (x2 : Int32) (x3 : Int32) (x4 : Int32) (M : TM) , f_X13_makeOrder_L35 p1 p2 p3 p4 K x1 x2 x3 x4 M → Wa p l e (rmD 4) s m args below meth c 0 0 (MQ below (va_Qi K (EndW D tc ad) (A0 ad s.heap.size)) args s 0 0 (A0 ad s.heap.size)) D tc ad 6 M 35 [(0, .ref (ad 699)), (1, .int x1), (2, .int x2), (3, .int x3), (4, .int x4)] [] := by
  intro x1 x2 x3 x4 M  h
  unfold f_X13_makeOrder_L35 at h
  refine ra_iconst E dX13_makeOrder_35 ki_0 ?_
  exact ra_sub (L' := [(0, _), (1, _), (2, _), (3, _), (4, _)]) [0, 1, 2, 3, 4] rfl (l_X13_makeOrder_L36 p1 p2 p3 p4 E hr _ _ _ _ _ _ h)
def f_X13_makeOrder (p1 : Int32) (p2 : Int32) (p3 : Int32) (p4 : Int32) (M : TM) (K : Int32 → TM → Prop) : Prop := f_X13_inRange p2 (1 : Int32) (4 : Int32) M (fun r2 M1 => ((r2 = 0 → f_X13_makeOrder_L35 p1 p2 p3 p4 K p1 p2 p3 p4 M1) ∧ (¬ r2 = 0 → f_X13_inRange p3 (1 : Int32) (6 : Int32) M1 (fun r18 M17 => ((r18 = 0 → f_X13_makeOrder_L35 p1 p2 p3 p4 K p1 p2 p3 p4 M17) ∧ (¬ r18 = 0 → f_X13_inRange p4 (1 : Int32) (500 : Int32) M17 (fun r22 M21 => ((r22 = 0 → f_X13_makeOrder_L35 p1 p2 p3 p4 K p1 p2 p3 p4 M21) ∧ (¬ r22 = 0 → f_X13_makeOrder_L36 p1 p2 p3 p4 K p1 p2 p3 p4 (1 : Int32) M21)))))))))
set_option maxRecDepth 100000 in
set_option maxHeartbeats 4000000 in
theorem c_X13_makeOrder {ad : Nat → Nat} (p1 : Int32) (p2 : Int32) (p3 : Int32) (p4 : Int32) (M : TM) (K : Int32 → TM → Prop) (h : f_X13_makeOrder p1 p2 p3 p4 M K) : MI yX13_makeOrder cX13_makeOrder 6 (some .int) 4 ad [.ref (ad 699), .int p1, .int p2, .int p3, .int p4] M K := by
  refine MI_of RX13 rfl (by decide +kernel) (Nat.le_of_ble_eq_true rfl) (fun p l e s m below meth c D tc E hr => ?_)
  unfold f_X13_makeOrder at h
  refine ra_iload_n E dX13_makeOrder_0 rfl 2 rfl ?_
  refine ra_iconst E dX13_makeOrder_1 ki_1 ?_
  refine ra_iconst E dX13_makeOrder_2 ki_4 ?_
  refine ra_callIS (rest := []) E (c_X13_inRange _ _ _ _ _ h) lq_13 ct_X13_inRange ml_X13_97 (by decide) rfl rfl (Nat.le_of_ble_eq_true rfl) ⟨Nat.le_of_ble_eq_true rfl, Nat.le_of_ble_eq_true rfl⟩ ⟨Nat.zero_le _, Nat.zero_le _⟩ dX13_makeOrder_3 (fun r2 M1 h => ?_)
  obtain ⟨b3, h⟩ := h
  refine ra_if_eq (tgt := 35) E dX13_makeOrder_6 (by decide) (fun q4 => ?_) (fun q4 => ?_)
  · replace h := h.1 q4
    exact ra_sub (L' := [(0, _), (1, _), (2, _), (3, _), (4, _)]) [0, 1, 2, 3, 4] rfl (l_X13_makeOrder_L35 p1 p2 p3 p4 E hr _ _ _ _ _ h)
  · replace h := h.2 q4
    refine ra_iload_n E dX13_makeOrder_9 rfl 3 rfl ?_
    refine ra_iconst E dX13_makeOrder_10 ki_1 ?_
    refine ra_bipush E dX13_makeOrder_11 kb_6 ?_
    refine ra_callIS (rest := []) E (c_X13_inRange _ _ _ _ _ h) lq_13 ct_X13_inRange ml_X13_97 (by decide) rfl rfl (Nat.le_of_ble_eq_true rfl) ⟨Nat.le_of_ble_eq_true rfl, Nat.le_of_ble_eq_true rfl⟩ ⟨Nat.zero_le _, Nat.zero_le _⟩ dX13_makeOrder_13 (fun r18 M17 h => ?_)
    obtain ⟨b19, h⟩ := h
    refine ra_if_eq (tgt := 35) E dX13_makeOrder_16 (by decide) (fun q20 => ?_) (fun q20 => ?_)
    · replace h := h.1 q20
      exact ra_sub (L' := [(0, _), (1, _), (2, _), (3, _), (4, _)]) [0, 1, 2, 3, 4] rfl (l_X13_makeOrder_L35 p1 p2 p3 p4 E hr _ _ _ _ _ h)
    · replace h := h.2 q20
      refine ra_iload E dX13_makeOrder_19 4 rfl ?_
      refine ra_iconst E dX13_makeOrder_21 ki_1 ?_
      refine ra_sipush E dX13_makeOrder_22 ks_500 ?_
      refine ra_callIS (rest := []) E (c_X13_inRange _ _ _ _ _ h) lq_13 ct_X13_inRange ml_X13_97 (by decide) rfl rfl (Nat.le_of_ble_eq_true rfl) ⟨Nat.le_of_ble_eq_true rfl, Nat.le_of_ble_eq_true rfl⟩ ⟨Nat.zero_le _, Nat.zero_le _⟩ dX13_makeOrder_25 (fun r22 M21 h => ?_)
      obtain ⟨b23, h⟩ := h
      refine ra_if_eq (tgt := 35) E dX13_makeOrder_28 (by decide) (fun q24 => ?_) (fun q24 => ?_)
      · replace h := h.1 q24
        exact ra_sub (L' := [(0, _), (1, _), (2, _), (3, _), (4, _)]) [0, 1, 2, 3, 4] rfl (l_X13_makeOrder_L35 p1 p2 p3 p4 E hr _ _ _ _ _ h)
      · replace h := h.2 q24
        refine ra_iconst E dX13_makeOrder_31 ki_1 ?_
        refine ra_goto (tgt := 36) E dX13_makeOrder_32 (by decide) ?_
        exact ra_sub (L' := [(0, _), (1, _), (2, _), (3, _), (4, _)]) [0, 1, 2, 3, 4] rfl (l_X13_makeOrder_L36 p1 p2 p3 p4 E hr _ _ _ _ _ _ h)
def f_X13_does (p1 : Int32) (M : TM) (K : Int32 → TM → Prop) : Prop := vp_in (p1 + (1 : Int32)) 100 ∧ vp_in (p1 + (2 : Int32)) 100 ∧ vp_in p1 100 ∧ (((M 708 p1.toNatClampNeg) = 0 → f_X13_doSail (M 708 (p1 + (1 : Int32)).toNatClampNeg) (M 708 (p1 + (2 : Int32)).toNatClampNeg) M (fun r6 M5 => K r6 M5)) ∧ ((M 708 p1.toNatClampNeg) = 1 → vp_in (p1 + (3 : Int32)) 100 ∧ vp_in (p1 + (4 : Int32)) 100 ∧ f_X13_doOrder (M 708 (p1 + (1 : Int32)).toNatClampNeg) (M 708 (p1 + (2 : Int32)).toNatClampNeg) (M 708 (p1 + (3 : Int32)).toNatClampNeg) (M 708 (p1 + (4 : Int32)).toNatClampNeg) M (fun r10 M9 => K r10 M9)) ∧ ((M 708 p1.toNatClampNeg) = 2 → f_X13_doTake (M 708 (p1 + (1 : Int32)).toNatClampNeg) (M 708 (p1 + (2 : Int32)).toNatClampNeg) M (fun r12 M11 => K r12 M11)) ∧ ((M 708 p1.toNatClampNeg) = 3 → f_X13_doDrop (M 708 (p1 + (1 : Int32)).toNatClampNeg) M (fun r14 M13 => K r14 M13)) ∧ ((M 708 p1.toNatClampNeg) = 4 → f_X13_doFlour (M 708 (p1 + (1 : Int32)).toNatClampNeg) (M 708 (p1 + (2 : Int32)).toNatClampNeg) M (fun r16 M15 => K r16 M15)) ∧ ((M 708 p1.toNatClampNeg) = 5 → f_X13_doCollect (M 708 (p1 + (1 : Int32)).toNatClampNeg) M (fun r18 M17 => K r18 M17)) ∧ ((M 708 p1.toNatClampNeg) = 6 → f_X13_doWash (M 708 (p1 + (1 : Int32)).toNatClampNeg) M (fun r20 M19 => K r20 M19)) ∧ (¬ (M 708 p1.toNatClampNeg) = 0 → ¬ (M 708 p1.toNatClampNeg) = 1 → ¬ (M 708 p1.toNatClampNeg) = 2 → ¬ (M 708 p1.toNatClampNeg) = 3 → ¬ (M 708 p1.toNatClampNeg) = 4 → ¬ (M 708 p1.toNatClampNeg) = 5 → ¬ (M 708 p1.toNatClampNeg) = 6 → f_X13_doWait (M 708 (p1 + (1 : Int32)).toNatClampNeg) M (fun r22 M21 => K r22 M21)))
set_option maxRecDepth 100000 in
set_option maxHeartbeats 4000000 in
theorem c_X13_does {ad : Nat → Nat} (p1 : Int32) (M : TM) (K : Int32 → TM → Prop) (h : f_X13_does p1 M K) : MI yX13_does cX13_does 4 (some .int) 9 ad [.ref (ad 699), .int p1] M K := by
  refine MI_of RX13 rfl (by decide +kernel) (Nat.le_of_ble_eq_true rfl) (fun p l e s m below meth c D tc E hr => ?_)
  unfold f_X13_does at h
  refine ra_aload_n E dX13_does_0 rfl 0 rfl ?_
  refine gf_X13_24 E lm13 fl_X13_41 dX13_does_1 ?_
  refine ra_iload_n E dX13_does_4 rfl 1 rfl ?_
  refine ra_iconst E dX13_does_5 ki_1 ?_
  refine ra_iadd E dX13_does_6 ?_
  obtain ⟨g1, h⟩ := h
  refine ra_iald E (lmM (by decide)) (cel_708 tc ad) g1 dX13_does_7 ?_
  refine ra_istore_n (L' := [(2, _), (0, _), (1, _)]) E dX13_does_8 rfl (by decide) rfl ?_
  refine ra_aload_n E dX13_does_9 rfl 1 rfl ?_
  refine gf_X13_24 E lm13 fl_X13_41 dX13_does_10 ?_
  refine ra_iload_n E dX13_does_13 rfl 2 rfl ?_
  refine ra_iconst E dX13_does_14 ki_2 ?_
  refine ra_iadd E dX13_does_15 ?_
  obtain ⟨g2, h⟩ := h
  refine ra_iald E (lmM (by decide)) (cel_708 tc ad) g2 dX13_does_16 ?_
  refine ra_istore_n (L' := [(3, _), (2, _), (0, _), (1, _)]) E dX13_does_17 rfl (by decide) rfl ?_
  refine ra_aload_n E dX13_does_18 rfl 2 rfl ?_
  refine gf_X13_24 E lm13 fl_X13_41 dX13_does_19 ?_
  refine ra_iload_n E dX13_does_22 rfl 3 rfl ?_
  obtain ⟨g3, h⟩ := h
  refine ra_iald E (lmM (by decide)) (cel_708 tc ad) g3 dX13_does_23 ?_
  by_cases q4_0 : (M 708 p1.toNatClampNeg) = 0
  · replace h := h.1 q4_0
    refine ra_tableIn (tgt := 68) (off := 44) E dX13_does_24 (by rw [q4_0]; decide) (by rw [q4_0]; decide) (by rw [q4_0]; decide) (by decide) ?_
    refine ra_aload_n E dX13_does_68 rfl 2 rfl ?_
    refine ra_iload_n E dX13_does_69 rfl 1 rfl ?_
    refine ra_iload_n E dX13_does_70 rfl 0 rfl ?_
    refine ra_callIV (rest := []) E (c_X13_doSail _ _ _ _ h) lq_13 cv_X13_doSail ml_X13_257 (by decide) (lmM (by decide)) (fun R => ⟨_, cel_699 tc ad R⟩) rfl rfl rfl (Nat.le_of_ble_eq_true rfl) ⟨Nat.le_of_ble_eq_true rfl, Nat.le_of_ble_eq_true rfl⟩ ⟨Nat.zero_le _, Nat.zero_le _⟩ dX13_does_71 (fun r24 M23 h => ?_)
    exact ra_iret E hr dX13_does_74 h
  by_cases q4_1 : (M 708 p1.toNatClampNeg) = 1
  · replace h := h.2.1 q4_1
    refine ra_tableIn (tgt := 75) (off := 51) E dX13_does_24 (by rw [q4_1]; decide) (by rw [q4_1]; decide) (by rw [q4_1]; decide) (by decide) ?_
    refine ra_aload_n E dX13_does_75 rfl 2 rfl ?_
    refine ra_iload_n E dX13_does_76 rfl 1 rfl ?_
    refine ra_iload_n E dX13_does_77 rfl 0 rfl ?_
    refine ra_aload_n E dX13_does_78 rfl 2 rfl ?_
    refine gf_X13_24 E lm13 fl_X13_41 dX13_does_79 ?_
    refine ra_iload_n E dX13_does_82 rfl 3 rfl ?_
    refine ra_iconst E dX13_does_83 ki_3 ?_
    refine ra_iadd E dX13_does_84 ?_
    obtain ⟨g25, h⟩ := h
    refine ra_iald E (lmM (by decide)) (cel_708 tc ad) g25 dX13_does_85 ?_
    refine ra_aload_n E dX13_does_86 rfl 2 rfl ?_
    refine gf_X13_24 E lm13 fl_X13_41 dX13_does_87 ?_
    refine ra_iload_n E dX13_does_90 rfl 3 rfl ?_
    refine ra_iconst E dX13_does_91 ki_4 ?_
    refine ra_iadd E dX13_does_92 ?_
    obtain ⟨g26, h⟩ := h
    refine ra_iald E (lmM (by decide)) (cel_708 tc ad) g26 dX13_does_93 ?_
    refine ra_callIV (rest := []) E (c_X13_doOrder _ _ _ _ _ _ h) lq_13 cv_X13_doOrder ml_X13_267 (by decide) (lmM (by decide)) (fun R => ⟨_, cel_699 tc ad R⟩) rfl rfl rfl (Nat.le_of_ble_eq_true rfl) ⟨Nat.le_of_ble_eq_true rfl, Nat.le_of_ble_eq_true rfl⟩ ⟨Nat.zero_le _, Nat.zero_le _⟩ dX13_does_94 (fun r28 M27 h => ?_)
    exact ra_iret E hr dX13_does_97 h
  by_cases q4_2 : (M 708 p1.toNatClampNeg) = 2
  · replace h := h.2.2.1 q4_2
    refine ra_tableIn (tgt := 98) (off := 74) E dX13_does_24 (by rw [q4_2]; decide) (by rw [q4_2]; decide) (by rw [q4_2]; decide) (by decide) ?_
    refine ra_aload_n E dX13_does_98 rfl 2 rfl ?_
    refine ra_iload_n E dX13_does_99 rfl 1 rfl ?_
    refine ra_iload_n E dX13_does_100 rfl 0 rfl ?_
    refine ra_callIV (rest := []) E (c_X13_doTake _ _ _ _ h) lq_13 cv_X13_doTake ml_X13_271 (by decide) (lmM (by decide)) (fun R => ⟨_, cel_699 tc ad R⟩) rfl rfl rfl (Nat.le_of_ble_eq_true rfl) ⟨Nat.le_of_ble_eq_true rfl, Nat.le_of_ble_eq_true rfl⟩ ⟨Nat.zero_le _, Nat.zero_le _⟩ dX13_does_101 (fun r30 M29 h => ?_)
    exact ra_iret E hr dX13_does_104 h
  by_cases q4_3 : (M 708 p1.toNatClampNeg) = 3
  · replace h := h.2.2.2.1 q4_3
    refine ra_tableIn (tgt := 105) (off := 81) E dX13_does_24 (by rw [q4_3]; decide) (by rw [q4_3]; decide) (by rw [q4_3]; decide) (by decide) ?_
    refine ra_aload_n E dX13_does_105 rfl 2 rfl ?_
    refine ra_iload_n E dX13_does_106 rfl 1 rfl ?_
    refine ra_callIV (rest := []) E (c_X13_doDrop _ _ _ h) lq_13 cv_X13_doDrop ml_X13_274 (by decide) (lmM (by decide)) (fun R => ⟨_, cel_699 tc ad R⟩) rfl rfl rfl (Nat.le_of_ble_eq_true rfl) ⟨Nat.le_of_ble_eq_true rfl, Nat.le_of_ble_eq_true rfl⟩ ⟨Nat.zero_le _, Nat.zero_le _⟩ dX13_does_107 (fun r32 M31 h => ?_)
    exact ra_iret E hr dX13_does_110 h
  by_cases q4_4 : (M 708 p1.toNatClampNeg) = 4
  · replace h := h.2.2.2.2.1 q4_4
    refine ra_tableIn (tgt := 111) (off := 87) E dX13_does_24 (by rw [q4_4]; decide) (by rw [q4_4]; decide) (by rw [q4_4]; decide) (by decide) ?_
    refine ra_aload_n E dX13_does_111 rfl 2 rfl ?_
    refine ra_iload_n E dX13_does_112 rfl 1 rfl ?_
    refine ra_iload_n E dX13_does_113 rfl 0 rfl ?_
    refine ra_callIV (rest := []) E (c_X13_doFlour _ _ _ _ h) lq_13 cv_X13_doFlour ml_X13_277 (by decide) (lmM (by decide)) (fun R => ⟨_, cel_699 tc ad R⟩) rfl rfl rfl (Nat.le_of_ble_eq_true rfl) ⟨Nat.le_of_ble_eq_true rfl, Nat.le_of_ble_eq_true rfl⟩ ⟨Nat.zero_le _, Nat.zero_le _⟩ dX13_does_114 (fun r34 M33 h => ?_)
    exact ra_iret E hr dX13_does_117 h
  by_cases q4_5 : (M 708 p1.toNatClampNeg) = 5
  · replace h := h.2.2.2.2.2.1 q4_5
    refine ra_tableIn (tgt := 118) (off := 94) E dX13_does_24 (by rw [q4_5]; decide) (by rw [q4_5]; decide) (by rw [q4_5]; decide) (by decide) ?_
    refine ra_aload_n E dX13_does_118 rfl 2 rfl ?_
    refine ra_iload_n E dX13_does_119 rfl 1 rfl ?_
    refine ra_callIV (rest := []) E (c_X13_doCollect _ _ _ h) lq_13 cv_X13_doCollect ml_X13_280 (by decide) (lmM (by decide)) (fun R => ⟨_, cel_699 tc ad R⟩) rfl rfl rfl (Nat.le_of_ble_eq_true rfl) ⟨Nat.le_of_ble_eq_true rfl, Nat.le_of_ble_eq_true rfl⟩ ⟨Nat.zero_le _, Nat.zero_le _⟩ dX13_does_120 (fun r36 M35 h => ?_)
    exact ra_iret E hr dX13_does_123 h
  by_cases q4_6 : (M 708 p1.toNatClampNeg) = 6
  · replace h := h.2.2.2.2.2.2.1 q4_6
    refine ra_tableIn (tgt := 124) (off := 100) E dX13_does_24 (by rw [q4_6]; decide) (by rw [q4_6]; decide) (by rw [q4_6]; decide) (by decide) ?_
    refine ra_aload_n E dX13_does_124 rfl 2 rfl ?_
    refine ra_iload_n E dX13_does_125 rfl 1 rfl ?_
    refine ra_callIV (rest := []) E (c_X13_doWash _ _ _ h) lq_13 cv_X13_doWash ml_X13_283 (by decide) (lmM (by decide)) (fun R => ⟨_, cel_699 tc ad R⟩) rfl rfl rfl (Nat.le_of_ble_eq_true rfl) ⟨Nat.le_of_ble_eq_true rfl, Nat.le_of_ble_eq_true rfl⟩ ⟨Nat.zero_le _, Nat.zero_le _⟩ dX13_does_126 (fun r38 M37 h => ?_)
    exact ra_iret E hr dX13_does_129 h
  replace h := h.2.2.2.2.2.2.2 q4_0 q4_1 q4_2 q4_3 q4_4 q4_5 q4_6
  refine ra_tableOut (tgt := 130) E dX13_does_24 (by have := lk_ne q4_0 (by decide : (0 : Int32).toInt = 0); have := lk_ne q4_1 (by decide : (1 : Int32).toInt = 1); have := lk_ne q4_2 (by decide : (2 : Int32).toInt = 2); have := lk_ne q4_3 (by decide : (3 : Int32).toInt = 3); have := lk_ne q4_4 (by decide : (4 : Int32).toInt = 4); have := lk_ne q4_5 (by decide : (5 : Int32).toInt = 5); have := lk_ne q4_6 (by decide : (6 : Int32).toInt = 6); omega) (by decide) ?_
  refine ra_aload_n E dX13_does_130 rfl 2 rfl ?_
  refine ra_iload_n E dX13_does_131 rfl 1 rfl ?_
  refine ra_callIV (rest := []) E (c_X13_doWait _ _ _ h) lq_13 cv_X13_doWait ml_X13_286 (by decide) (lmM (by decide)) (fun R => ⟨_, cel_699 tc ad R⟩) rfl rfl rfl (Nat.le_of_ble_eq_true rfl) ⟨Nat.le_of_ble_eq_true rfl, Nat.le_of_ble_eq_true rfl⟩ ⟨Nat.zero_le _, Nat.zero_le _⟩ dX13_does_132 (fun r22 M21 h => ?_)
  exact ra_iret E hr dX13_does_135 h
def f_L_lockWait (p1 : Int32) (M : TM) (K : Int32 → TM → Prop) : Prop := f_X12_lockWait p1 M (fun r2 M1 => ∀ M4, M4 = u2 M1 710 0 r2 → K (0 : Int32) M4) (fun E9 M3 => (E9 = "java/lang/IndexOutOfBoundsException" ∧ K (1 : Int32) M3))
set_option maxRecDepth 100000 in
set_option maxHeartbeats 4000000 in
theorem c_L_lockWait {ad : Nat → Nat} (p1 : Int32) (M : TM) (K : Int32 → TM → Prop) (h : f_L_lockWait p1 M K) : XW yL_lockWait cL_lockWait 4 (some .int) [(0, 9, 12, 18)] 8 1 ad [.ref (ad 0), .int p1, .ref (ad 710)] M K := by
  refine XW_of RL rfl (by decide +kernel) (Nat.le_of_ble_eq_true rfl) (fun p l e s m below meth c D tc E hr hfl hTab => ?_)
  unfold f_L_lockWait at h
  refine ra_aload_n E dL_lockWait_0 rfl 2 rfl ?_
  refine ra_iconst E dL_lockWait_1 ki_0 ?_
  refine ra_aload_n E dL_lockWait_2 rfl 0 rfl ?_
  refine ra_iload_n E dL_lockWait_3 rfl 1 rfl ?_
  refine rx_callIVH (rest := [_, _]) E hfl (c_X12_lockWait _ _ _ _ h) (lq_X12 _) cv_X12_lockWait ml_L_15 (by decide) (lm (by decide)) (fun R => ⟨_, cel_0 tc ad R⟩) rfl rfl rfl (Nat.le_of_ble_eq_true rfl) ⟨Nat.le_of_ble_eq_true rfl, Nat.le_of_ble_eq_true rfl⟩ ⟨Nat.le_of_ble_eq_true rfl, Nat.le_of_ble_eq_true rfl⟩ dL_lockWait_4 (fun E9 M3 hX => ?_) (fun r2 M1 h => ?_)
  · obtain ⟨rfl, h⟩ := hX
    · exact rx_catch hTab E [] [] ⟨0, 9, 12, 18⟩ rfl (fun _ hz => absurd hz List.not_mem_nil) (by decide +kernel) (by decide) kl_18 (by decide +kernel) (fun q5 => by
        refine ra_astore_n (L' := [(3, _), (0, _), (1, _), (2, _)]) E dL_lockWait_12 rfl (by decide) rfl ?_
        refine ra_iconst E dL_lockWait_13 ki_1 ?_
        exact rx_iret E hr dL_lockWait_14 ⟨Nat.le_of_ble_eq_true rfl, Nat.le_of_ble_eq_true rfl⟩ h
        )
  · skip
    refine ra_i2l E dL_lockWait_7 rfl ?_
    refine ra_last E (Nat.le_of_ble_eq_true rfl) rfl dL_lockWait_8 ?_
    replace h := h _ rfl
    refine ra_goto (tgt := 15) E dL_lockWait_9 (by decide) ?_
    refine ra_iconst E dL_lockWait_15 ki_0 ?_
    exact rx_iret E hr dL_lockWait_16 ⟨Nat.le_of_ble_eq_true rfl, Nat.le_of_ble_eq_true rfl⟩ h
def f_L_clearance (p1 : Int32) (M : TM) (K : Int32 → TM → Prop) : Prop := f_X12_clearance p1 M (fun r2 M1 => ∀ M4, M4 = u2 M1 710 0 r2 → K (0 : Int32) M4) (fun E9 M3 => (E9 = "java/lang/IndexOutOfBoundsException" ∧ K (1 : Int32) M3))
set_option maxRecDepth 100000 in
set_option maxHeartbeats 4000000 in
theorem c_L_clearance {ad : Nat → Nat} (p1 : Int32) (M : TM) (K : Int32 → TM → Prop) (h : f_L_clearance p1 M K) : XW yL_clearance cL_clearance 4 (some .int) [(0, 9, 12, 18)] 8 1 ad [.ref (ad 0), .int p1, .ref (ad 710)] M K := by
  refine XW_of RL rfl (by decide +kernel) (Nat.le_of_ble_eq_true rfl) (fun p l e s m below meth c D tc E hr hfl hTab => ?_)
  unfold f_L_clearance at h
  refine ra_aload_n E dL_clearance_0 rfl 2 rfl ?_
  refine ra_iconst E dL_clearance_1 ki_0 ?_
  refine ra_aload_n E dL_clearance_2 rfl 0 rfl ?_
  refine ra_iload_n E dL_clearance_3 rfl 1 rfl ?_
  refine rx_callIVH (rest := [_, _]) E hfl (c_X12_clearance _ _ _ _ h) (lq_X12 _) cv_X12_clearance ml_L_20 (by decide) (lm (by decide)) (fun R => ⟨_, cel_0 tc ad R⟩) rfl rfl rfl (Nat.le_of_ble_eq_true rfl) ⟨Nat.le_of_ble_eq_true rfl, Nat.le_of_ble_eq_true rfl⟩ ⟨Nat.le_of_ble_eq_true rfl, Nat.le_of_ble_eq_true rfl⟩ dL_clearance_4 (fun E9 M3 hX => ?_) (fun r2 M1 h => ?_)
  · obtain ⟨rfl, h⟩ := hX
    · exact rx_catch hTab E [] [] ⟨0, 9, 12, 18⟩ rfl (fun _ hz => absurd hz List.not_mem_nil) (by decide +kernel) (by decide) kl_18 (by decide +kernel) (fun q5 => by
        refine ra_astore_n (L' := [(3, _), (0, _), (1, _), (2, _)]) E dL_clearance_12 rfl (by decide) rfl ?_
        refine ra_iconst E dL_clearance_13 ki_1 ?_
        exact rx_iret E hr dL_clearance_14 ⟨Nat.le_of_ble_eq_true rfl, Nat.le_of_ble_eq_true rfl⟩ h
        )
  · skip
    refine ra_i2l E dL_clearance_7 rfl ?_
    refine ra_last E (Nat.le_of_ble_eq_true rfl) rfl dL_clearance_8 ?_
    replace h := h _ rfl
    refine ra_goto (tgt := 15) E dL_clearance_9 (by decide) ?_
    refine ra_iconst E dL_clearance_15 ki_0 ?_
    exact rx_iret E hr dL_clearance_16 ⟨Nat.le_of_ble_eq_true rfl, Nat.le_of_ble_eq_true rfl⟩ h
def f_L_bargeInLock (p1 : Int32) (M : TM) (K : Int32 → TM → Prop) : Prop := f_X12_bargeInLock p1 M (fun r2 M1 => ∀ M4, M4 = u2 M1 710 0 r2 → K (0 : Int32) M4) (fun E9 M3 => (E9 = "java/lang/IndexOutOfBoundsException" ∧ K (1 : Int32) M3))
set_option maxRecDepth 100000 in
set_option maxHeartbeats 4000000 in
theorem c_L_bargeInLock {ad : Nat → Nat} (p1 : Int32) (M : TM) (K : Int32 → TM → Prop) (h : f_L_bargeInLock p1 M K) : XW yL_bargeInLock cL_bargeInLock 4 (some .int) [(0, 9, 12, 18)] 8 1 ad [.ref (ad 0), .int p1, .ref (ad 710)] M K := by
  refine XW_of RL rfl (by decide +kernel) (Nat.le_of_ble_eq_true rfl) (fun p l e s m below meth c D tc E hr hfl hTab => ?_)
  unfold f_L_bargeInLock at h
  refine ra_aload_n E dL_bargeInLock_0 rfl 2 rfl ?_
  refine ra_iconst E dL_bargeInLock_1 ki_0 ?_
  refine ra_aload_n E dL_bargeInLock_2 rfl 0 rfl ?_
  refine ra_iload_n E dL_bargeInLock_3 rfl 1 rfl ?_
  refine rx_callIVH (rest := [_, _]) E hfl (c_X12_bargeInLock _ _ _ _ h) (lq_X12 _) cv_X12_bargeInLock ml_L_23 (by decide) (lm (by decide)) (fun R => ⟨_, cel_0 tc ad R⟩) rfl rfl rfl (Nat.le_of_ble_eq_true rfl) ⟨Nat.le_of_ble_eq_true rfl, Nat.le_of_ble_eq_true rfl⟩ ⟨Nat.le_of_ble_eq_true rfl, Nat.le_of_ble_eq_true rfl⟩ dL_bargeInLock_4 (fun E9 M3 hX => ?_) (fun r2 M1 h => ?_)
  · obtain ⟨rfl, h⟩ := hX
    · exact rx_catch hTab E [] [] ⟨0, 9, 12, 18⟩ rfl (fun _ hz => absurd hz List.not_mem_nil) (by decide +kernel) (by decide) kl_18 (by decide +kernel) (fun q5 => by
        refine ra_astore_n (L' := [(3, _), (0, _), (1, _), (2, _)]) E dL_bargeInLock_12 rfl (by decide) rfl ?_
        refine ra_iconst E dL_bargeInLock_13 ki_1 ?_
        exact rx_iret E hr dL_bargeInLock_14 ⟨Nat.le_of_ble_eq_true rfl, Nat.le_of_ble_eq_true rfl⟩ h
        )
  · skip
    refine ra_i2l E dL_bargeInLock_7 rfl ?_
    refine ra_last E (Nat.le_of_ble_eq_true rfl) rfl dL_bargeInLock_8 ?_
    replace h := h _ rfl
    refine ra_goto (tgt := 15) E dL_bargeInLock_9 (by decide) ?_
    refine ra_iconst E dL_bargeInLock_15 ki_0 ?_
    exact rx_iret E hr dL_bargeInLock_16 ⟨Nat.le_of_ble_eq_true rfl, Nat.le_of_ble_eq_true rfl⟩ h
def f_L_usedPairs (p1 : Int32) (M : TM) (K : Int32 → TM → Prop) : Prop := f_X12_usedPairs p1 M (fun r2 M1 => ∀ M4, M4 = u2 M1 710 0 r2 → K (0 : Int32) M4) (fun E9 M3 => (E9 = "java/lang/IndexOutOfBoundsException" ∧ K (1 : Int32) M3))
set_option maxRecDepth 100000 in
set_option maxHeartbeats 4000000 in
theorem c_L_usedPairs {ad : Nat → Nat} (p1 : Int32) (M : TM) (K : Int32 → TM → Prop) (h : f_L_usedPairs p1 M K) : XW yL_usedPairs cL_usedPairs 4 (some .int) [(0, 9, 12, 18)] 8 1 ad [.ref (ad 0), .int p1, .ref (ad 710)] M K := by
  refine XW_of RL rfl (by decide +kernel) (Nat.le_of_ble_eq_true rfl) (fun p l e s m below meth c D tc E hr hfl hTab => ?_)
  unfold f_L_usedPairs at h
  refine ra_aload_n E dL_usedPairs_0 rfl 2 rfl ?_
  refine ra_iconst E dL_usedPairs_1 ki_0 ?_
  refine ra_aload_n E dL_usedPairs_2 rfl 0 rfl ?_
  refine ra_iload_n E dL_usedPairs_3 rfl 1 rfl ?_
  refine rx_callIVH (rest := [_, _]) E hfl (c_X12_usedPairs _ _ _ _ h) (lq_X12 _) cv_X12_usedPairs ml_L_26 (by decide) (lm (by decide)) (fun R => ⟨_, cel_0 tc ad R⟩) rfl rfl rfl (Nat.le_of_ble_eq_true rfl) ⟨Nat.le_of_ble_eq_true rfl, Nat.le_of_ble_eq_true rfl⟩ ⟨Nat.le_of_ble_eq_true rfl, Nat.le_of_ble_eq_true rfl⟩ dL_usedPairs_4 (fun E9 M3 hX => ?_) (fun r2 M1 h => ?_)
  · obtain ⟨rfl, h⟩ := hX
    · exact rx_catch hTab E [] [] ⟨0, 9, 12, 18⟩ rfl (fun _ hz => absurd hz List.not_mem_nil) (by decide +kernel) (by decide) kl_18 (by decide +kernel) (fun q5 => by
        refine ra_astore_n (L' := [(3, _), (0, _), (1, _), (2, _)]) E dL_usedPairs_12 rfl (by decide) rfl ?_
        refine ra_iconst E dL_usedPairs_13 ki_1 ?_
        exact rx_iret E hr dL_usedPairs_14 ⟨Nat.le_of_ble_eq_true rfl, Nat.le_of_ble_eq_true rfl⟩ h
        )
  · skip
    refine ra_i2l E dL_usedPairs_7 rfl ?_
    refine ra_last E (Nat.le_of_ble_eq_true rfl) rfl dL_usedPairs_8 ?_
    replace h := h _ rfl
    refine ra_goto (tgt := 15) E dL_usedPairs_9 (by decide) ?_
    refine ra_iconst E dL_usedPairs_15 ki_0 ?_
    exact rx_iret E hr dL_usedPairs_16 ⟨Nat.le_of_ble_eq_true rfl, Nat.le_of_ble_eq_true rfl⟩ h
def f_L_bargesAt (p1 : Int32) (M : TM) (K : Int32 → TM → Prop) : Prop := f_X12_bargesAt p1 M (fun r2 M1 => ∀ M4, M4 = u2 M1 710 0 r2 → K (0 : Int32) M4) (fun E9 M3 => (E9 = "java/lang/IndexOutOfBoundsException" ∧ K (1 : Int32) M3))
set_option maxRecDepth 100000 in
set_option maxHeartbeats 4000000 in
theorem c_L_bargesAt {ad : Nat → Nat} (p1 : Int32) (M : TM) (K : Int32 → TM → Prop) (h : f_L_bargesAt p1 M K) : XW yL_bargesAt cL_bargesAt 4 (some .int) [(0, 9, 12, 18)] 8 1 ad [.ref (ad 0), .int p1, .ref (ad 710)] M K := by
  refine XW_of RL rfl (by decide +kernel) (Nat.le_of_ble_eq_true rfl) (fun p l e s m below meth c D tc E hr hfl hTab => ?_)
  unfold f_L_bargesAt at h
  refine ra_aload_n E dL_bargesAt_0 rfl 2 rfl ?_
  refine ra_iconst E dL_bargesAt_1 ki_0 ?_
  refine ra_aload_n E dL_bargesAt_2 rfl 0 rfl ?_
  refine ra_iload_n E dL_bargesAt_3 rfl 1 rfl ?_
  refine rx_callIVH (rest := [_, _]) E hfl (c_X12_bargesAt _ _ _ _ h) (lq_X12 _) cv_X12_bargesAt ml_L_29 (by decide) (lm (by decide)) (fun R => ⟨_, cel_0 tc ad R⟩) rfl rfl rfl (Nat.le_of_ble_eq_true rfl) ⟨Nat.le_of_ble_eq_true rfl, Nat.le_of_ble_eq_true rfl⟩ ⟨Nat.le_of_ble_eq_true rfl, Nat.le_of_ble_eq_true rfl⟩ dL_bargesAt_4 (fun E9 M3 hX => ?_) (fun r2 M1 h => ?_)
  · obtain ⟨rfl, h⟩ := hX
    · exact rx_catch hTab E [] [] ⟨0, 9, 12, 18⟩ rfl (fun _ hz => absurd hz List.not_mem_nil) (by decide +kernel) (by decide) kl_18 (by decide +kernel) (fun q5 => by
        refine ra_astore_n (L' := [(3, _), (0, _), (1, _), (2, _)]) E dL_bargesAt_12 rfl (by decide) rfl ?_
        refine ra_iconst E dL_bargesAt_13 ki_1 ?_
        exact rx_iret E hr dL_bargesAt_14 ⟨Nat.le_of_ble_eq_true rfl, Nat.le_of_ble_eq_true rfl⟩ h
        )
  · skip
    refine ra_i2l E dL_bargesAt_7 rfl ?_
    refine ra_last E (Nat.le_of_ble_eq_true rfl) rfl dL_bargesAt_8 ?_
    replace h := h _ rfl
    refine ra_goto (tgt := 15) E dL_bargesAt_9 (by decide) ?_
    refine ra_iconst E dL_bargesAt_15 ki_0 ?_
    exact rx_iret E hr dL_bargesAt_16 ⟨Nat.le_of_ble_eq_true rfl, Nat.le_of_ble_eq_true rfl⟩ h
def f_L_ordersAt (p1 : Int32) (M : TM) (K : Int32 → TM → Prop) : Prop := f_X12_ordersAt p1 M (fun r2 M1 => ∀ M4, M4 = u2 M1 710 0 r2 → K (0 : Int32) M4) (fun E9 M3 => (E9 = "java/lang/IndexOutOfBoundsException" ∧ K (1 : Int32) M3))
set_option maxRecDepth 100000 in
set_option maxHeartbeats 4000000 in
theorem c_L_ordersAt {ad : Nat → Nat} (p1 : Int32) (M : TM) (K : Int32 → TM → Prop) (h : f_L_ordersAt p1 M K) : XW yL_ordersAt cL_ordersAt 4 (some .int) [(0, 9, 12, 18)] 8 1 ad [.ref (ad 0), .int p1, .ref (ad 710)] M K := by
  refine XW_of RL rfl (by decide +kernel) (Nat.le_of_ble_eq_true rfl) (fun p l e s m below meth c D tc E hr hfl hTab => ?_)
  unfold f_L_ordersAt at h
  refine ra_aload_n E dL_ordersAt_0 rfl 2 rfl ?_
  refine ra_iconst E dL_ordersAt_1 ki_0 ?_
  refine ra_aload_n E dL_ordersAt_2 rfl 0 rfl ?_
  refine ra_iload_n E dL_ordersAt_3 rfl 1 rfl ?_
  refine rx_callIVH (rest := [_, _]) E hfl (c_X12_ordersAt _ _ _ _ h) (lq_X12 _) cv_X12_ordersAt ml_L_32 (by decide) (lm (by decide)) (fun R => ⟨_, cel_0 tc ad R⟩) rfl rfl rfl (Nat.le_of_ble_eq_true rfl) ⟨Nat.le_of_ble_eq_true rfl, Nat.le_of_ble_eq_true rfl⟩ ⟨Nat.le_of_ble_eq_true rfl, Nat.le_of_ble_eq_true rfl⟩ dL_ordersAt_4 (fun E9 M3 hX => ?_) (fun r2 M1 h => ?_)
  · obtain ⟨rfl, h⟩ := hX
    · exact rx_catch hTab E [] [] ⟨0, 9, 12, 18⟩ rfl (fun _ hz => absurd hz List.not_mem_nil) (by decide +kernel) (by decide) kl_18 (by decide +kernel) (fun q5 => by
        refine ra_astore_n (L' := [(3, _), (0, _), (1, _), (2, _)]) E dL_ordersAt_12 rfl (by decide) rfl ?_
        refine ra_iconst E dL_ordersAt_13 ki_1 ?_
        exact rx_iret E hr dL_ordersAt_14 ⟨Nat.le_of_ble_eq_true rfl, Nat.le_of_ble_eq_true rfl⟩ h
        )
  · skip
    refine ra_i2l E dL_ordersAt_7 rfl ?_
    refine ra_last E (Nat.le_of_ble_eq_true rfl) rfl dL_ordersAt_8 ?_
    replace h := h _ rfl
    refine ra_goto (tgt := 15) E dL_ordersAt_9 (by decide) ?_
    refine ra_iconst E dL_ordersAt_15 ki_0 ?_
    exact rx_iret E hr dL_ordersAt_16 ⟨Nat.le_of_ble_eq_true rfl, Nat.le_of_ble_eq_true rfl⟩ h
def f_L_sailObstacle (p1 : Int32) (p2 : Int32) (M : TM) (K : Int32 → TM → Prop) : Prop := f_X12_sailObstacle p1 p2 M (fun r2 M1 => ∀ M4, M4 = u2 M1 710 0 r2 → K (0 : Int32) M4) (fun E9 M3 => (E9 = "java/lang/IndexOutOfBoundsException" ∧ K (1 : Int32) M3))
set_option maxRecDepth 100000 in
set_option maxHeartbeats 4000000 in
theorem c_L_sailObstacle {ad : Nat → Nat} (p1 : Int32) (p2 : Int32) (M : TM) (K : Int32 → TM → Prop) (h : f_L_sailObstacle p1 p2 M K) : XW yL_sailObstacle cL_sailObstacle 5 (some .int) [(0, 10, 13, 18)] 8 2 ad [.ref (ad 0), .int p1, .int p2, .ref (ad 710)] M K := by
  refine XW_of RL rfl (by decide +kernel) (Nat.le_of_ble_eq_true rfl) (fun p l e s m below meth c D tc E hr hfl hTab => ?_)
  unfold f_L_sailObstacle at h
  refine ra_aload_n E dL_sailObstacle_0 rfl 3 rfl ?_
  refine ra_iconst E dL_sailObstacle_1 ki_0 ?_
  refine ra_aload_n E dL_sailObstacle_2 rfl 0 rfl ?_
  refine ra_iload_n E dL_sailObstacle_3 rfl 1 rfl ?_
  refine ra_iload_n E dL_sailObstacle_4 rfl 2 rfl ?_
  refine rx_callIVH (rest := [_, _]) E hfl (c_X12_sailObstacle _ _ _ _ _ h) (lq_X12 _) cv_X12_sailObstacle ml_L_97 (by decide) (lm (by decide)) (fun R => ⟨_, cel_0 tc ad R⟩) rfl rfl rfl (Nat.le_of_ble_eq_true rfl) ⟨Nat.le_of_ble_eq_true rfl, Nat.le_of_ble_eq_true rfl⟩ ⟨Nat.le_of_ble_eq_true rfl, Nat.le_of_ble_eq_true rfl⟩ dL_sailObstacle_5 (fun E9 M3 hX => ?_) (fun r2 M1 h => ?_)
  · obtain ⟨rfl, h⟩ := hX
    · exact rx_catch hTab E [] [] ⟨0, 10, 13, 18⟩ rfl (fun _ hz => absurd hz List.not_mem_nil) (by decide +kernel) (by decide) kl_18 (by decide +kernel) (fun q5 => by
        refine ra_astore (L' := [(4, _), (0, _), (1, _), (2, _), (3, _)]) E dL_sailObstacle_13 (by decide) rfl ?_
        refine ra_iconst E dL_sailObstacle_15 ki_1 ?_
        exact rx_iret E hr dL_sailObstacle_16 ⟨Nat.le_of_ble_eq_true rfl, Nat.le_of_ble_eq_true rfl⟩ h
        )
  · skip
    refine ra_i2l E dL_sailObstacle_8 rfl ?_
    refine ra_last E (Nat.le_of_ble_eq_true rfl) rfl dL_sailObstacle_9 ?_
    replace h := h _ rfl
    refine ra_goto (tgt := 17) E dL_sailObstacle_10 (by decide) ?_
    refine ra_iconst E dL_sailObstacle_17 ki_0 ?_
    exact rx_iret E hr dL_sailObstacle_18 ⟨Nat.le_of_ble_eq_true rfl, Nat.le_of_ble_eq_true rfl⟩ h
def f_L_journeyTime (p1 : Int32) (p2 : Int32) (M : TM) (K : Int32 → TM → Prop) : Prop := f_X12_journeyTime p1 p2 M (fun r2 M1 => ∀ M4, M4 = u2 M1 710 0 r2 → K (0 : Int32) M4) (fun E9 M3 => (E9 = "java/lang/IndexOutOfBoundsException" ∧ K (1 : Int32) M3))
set_option maxRecDepth 100000 in
set_option maxHeartbeats 4000000 in
theorem c_L_journeyTime {ad : Nat → Nat} (p1 : Int32) (p2 : Int32) (M : TM) (K : Int32 → TM → Prop) (h : f_L_journeyTime p1 p2 M K) : XW yL_journeyTime cL_journeyTime 5 (some .int) [(0, 10, 13, 18)] 8 2 ad [.ref (ad 0), .int p1, .int p2, .ref (ad 710)] M K := by
  refine XW_of RL rfl (by decide +kernel) (Nat.le_of_ble_eq_true rfl) (fun p l e s m below meth c D tc E hr hfl hTab => ?_)
  unfold f_L_journeyTime at h
  refine ra_aload_n E dL_journeyTime_0 rfl 3 rfl ?_
  refine ra_iconst E dL_journeyTime_1 ki_0 ?_
  refine ra_aload_n E dL_journeyTime_2 rfl 0 rfl ?_
  refine ra_iload_n E dL_journeyTime_3 rfl 1 rfl ?_
  refine ra_iload_n E dL_journeyTime_4 rfl 2 rfl ?_
  refine rx_callIVH (rest := [_, _]) E hfl (c_X12_journeyTime _ _ _ _ _ h) (lq_X12 _) cv_X12_journeyTime ml_L_100 (by decide) (lm (by decide)) (fun R => ⟨_, cel_0 tc ad R⟩) rfl rfl rfl (Nat.le_of_ble_eq_true rfl) ⟨Nat.le_of_ble_eq_true rfl, Nat.le_of_ble_eq_true rfl⟩ ⟨Nat.le_of_ble_eq_true rfl, Nat.le_of_ble_eq_true rfl⟩ dL_journeyTime_5 (fun E9 M3 hX => ?_) (fun r2 M1 h => ?_)
  · obtain ⟨rfl, h⟩ := hX
    · exact rx_catch hTab E [] [] ⟨0, 10, 13, 18⟩ rfl (fun _ hz => absurd hz List.not_mem_nil) (by decide +kernel) (by decide) kl_18 (by decide +kernel) (fun q5 => by
        refine ra_astore (L' := [(4, _), (0, _), (1, _), (2, _), (3, _)]) E dL_journeyTime_13 (by decide) rfl ?_
        refine ra_iconst E dL_journeyTime_15 ki_1 ?_
        exact rx_iret E hr dL_journeyTime_16 ⟨Nat.le_of_ble_eq_true rfl, Nat.le_of_ble_eq_true rfl⟩ h
        )
  · skip
    refine ra_i2l E dL_journeyTime_8 rfl ?_
    refine ra_last E (Nat.le_of_ble_eq_true rfl) rfl dL_journeyTime_9 ?_
    replace h := h _ rfl
    refine ra_goto (tgt := 17) E dL_journeyTime_10 (by decide) ?_
    refine ra_iconst E dL_journeyTime_17 ki_0 ?_
    exact rx_iret E hr dL_journeyTime_18 ⟨Nat.le_of_ble_eq_true rfl, Nat.le_of_ble_eq_true rfl⟩ h
def f_L_undo  (M : TM) (K : Int32 → TM → Prop) : Prop := f_X12_undo M (fun r2 M1 => ∀ M4, M4 = u2 M1 710 0 r2 → K (0 : Int32) M4) (fun E9 M3 => (E9 = "java/lang/IllegalStateException" ∧ K (1 : Int32) M3))
set_option maxRecDepth 100000 in
set_option maxHeartbeats 4000000 in
theorem c_L_undo {ad : Nat → Nat}  (M : TM) (K : Int32 → TM → Prop) (h : f_L_undo  M K) : XW yL_undo cL_undo 3 (some .int) [(0, 8, 11, 118)] 8 1 ad [.ref (ad 0), .ref (ad 710)] M K := by
  refine XW_of RL rfl (by decide +kernel) (Nat.le_of_ble_eq_true rfl) (fun p l e s m below meth c D tc E hr hfl hTab => ?_)
  unfold f_L_undo at h
  refine ra_aload_n E dL_undo_0 rfl 1 rfl ?_
  refine ra_iconst E dL_undo_1 ki_0 ?_
  refine ra_aload_n E dL_undo_2 rfl 0 rfl ?_
  refine rx_callIVH (rest := [_, _]) E hfl (c_X12_undo _ _ _ h) (lq_X12 _) cv_X12_undo ml_L_148 (by decide) (lm (by decide)) (fun R => ⟨_, cel_0 tc ad R⟩) rfl rfl rfl (Nat.le_of_ble_eq_true rfl) ⟨Nat.le_of_ble_eq_true rfl, Nat.le_of_ble_eq_true rfl⟩ ⟨Nat.le_of_ble_eq_true rfl, Nat.le_of_ble_eq_true rfl⟩ dL_undo_3 (fun E9 M3 hX => ?_) (fun r2 M1 h => ?_)
  · obtain ⟨rfl, h⟩ := hX
    · exact rx_catch hTab E [] [] ⟨0, 8, 11, 118⟩ rfl (fun _ hz => absurd hz List.not_mem_nil) (by decide +kernel) (by decide) kl_118 (by decide +kernel) (fun q5 => by
        refine ra_astore_n (L' := [(2, _), (0, _), (1, _)]) E dL_undo_11 rfl (by decide) rfl ?_
        refine ra_iconst E dL_undo_12 ki_1 ?_
        exact rx_iret E hr dL_undo_13 ⟨Nat.le_of_ble_eq_true rfl, Nat.le_of_ble_eq_true rfl⟩ h
        )
  · skip
    refine ra_i2l E dL_undo_6 rfl ?_
    refine ra_last E (Nat.le_of_ble_eq_true rfl) rfl dL_undo_7 ?_
    replace h := h _ rfl
    refine ra_goto (tgt := 14) E dL_undo_8 (by decide) ?_
    refine ra_iconst E dL_undo_14 ki_0 ?_
    exact rx_iret E hr dL_undo_15 ⟨Nat.le_of_ble_eq_true rfl, Nat.le_of_ble_eq_true rfl⟩ h
def f_L_restoreSnapshot  (M : TM) (K : Int32 → TM → Prop) : Prop := f_X12_restoreSnapshot M (fun r2 M1 => ∀ M4, M4 = u2 M1 710 0 r2 → K (0 : Int32) M4) (fun E9 M3 => (E9 = "java/lang/IllegalStateException" ∧ K (1 : Int32) M3))
set_option maxRecDepth 100000 in
set_option maxHeartbeats 4000000 in
theorem c_L_restoreSnapshot {ad : Nat → Nat}  (M : TM) (K : Int32 → TM → Prop) (h : f_L_restoreSnapshot  M K) : XW yL_restoreSnapshot cL_restoreSnapshot 3 (some .int) [(0, 8, 11, 118)] 8 1 ad [.ref (ad 0), .ref (ad 710)] M K := by
  refine XW_of RL rfl (by decide +kernel) (Nat.le_of_ble_eq_true rfl) (fun p l e s m below meth c D tc E hr hfl hTab => ?_)
  unfold f_L_restoreSnapshot at h
  refine ra_aload_n E dL_restoreSnapshot_0 rfl 1 rfl ?_
  refine ra_iconst E dL_restoreSnapshot_1 ki_0 ?_
  refine ra_aload_n E dL_restoreSnapshot_2 rfl 0 rfl ?_
  refine rx_callIVH (rest := [_, _]) E hfl (c_X12_restoreSnapshot _ _ _ h) (lq_X12 _) cv_X12_restoreSnapshot ml_L_152 (by decide) (lm (by decide)) (fun R => ⟨_, cel_0 tc ad R⟩) rfl rfl rfl (Nat.le_of_ble_eq_true rfl) ⟨Nat.le_of_ble_eq_true rfl, Nat.le_of_ble_eq_true rfl⟩ ⟨Nat.le_of_ble_eq_true rfl, Nat.le_of_ble_eq_true rfl⟩ dL_restoreSnapshot_3 (fun E9 M3 hX => ?_) (fun r2 M1 h => ?_)
  · obtain ⟨rfl, h⟩ := hX
    · exact rx_catch hTab E [] [] ⟨0, 8, 11, 118⟩ rfl (fun _ hz => absurd hz List.not_mem_nil) (by decide +kernel) (by decide) kl_118 (by decide +kernel) (fun q5 => by
        refine ra_astore_n (L' := [(2, _), (0, _), (1, _)]) E dL_restoreSnapshot_11 rfl (by decide) rfl ?_
        refine ra_iconst E dL_restoreSnapshot_12 ki_1 ?_
        exact rx_iret E hr dL_restoreSnapshot_13 ⟨Nat.le_of_ble_eq_true rfl, Nat.le_of_ble_eq_true rfl⟩ h
        )
  · skip
    refine ra_i2l E dL_restoreSnapshot_6 rfl ?_
    refine ra_last E (Nat.le_of_ble_eq_true rfl) rfl dL_restoreSnapshot_7 ?_
    replace h := h _ rfl
    refine ra_goto (tgt := 14) E dL_restoreSnapshot_8 (by decide) ?_
    refine ra_iconst E dL_restoreSnapshot_14 ki_0 ?_
    exact rx_iret E hr dL_restoreSnapshot_15 ⟨Nat.le_of_ble_eq_true rfl, Nat.le_of_ble_eq_true rfl⟩ h
def f_X13_isRepeated_L2 (fc : Int32 → Int32 → TM → (Int32 → TM → Prop) → Prop) (p1 : Int32) (K : Int32 → TM → Prop) : Nat → Int32 → Int32 → TM → Prop
  | 0, _, _, _ => False
  | n + 1, x1, x2, M => vp_in (((5 : Int32) * x1) + (1 : Int32)) 100 ∧ (((M 708 (((5 : Int32) * x1) + (1 : Int32)).toNatClampNeg) ≤ x2 → K (1 : Int32) M) ∧ (¬ (M 708 (((5 : Int32) * x1) + (1 : Int32)).toNatClampNeg) ≤ x2 → vp_in (((5 : Int32) * x1) + (2 : Int32)) 100 ∧ fc (x1 + (1 : Int32)) (M 708 (((5 : Int32) * x1) + (2 : Int32)).toNatClampNeg) M (fun r5 M4 => ((¬ r5 = 0 → f_X13_isRepeated_L2 fc p1 K n x1 (x2 + 1) M4) ∧ (r5 = 0 → K (0 : Int32) M4)))))
set_option maxRecDepth 100000 in
set_option maxHeartbeats 4000000 in
theorem l_X13_isRepeated_L2 {p : Program} {l : Launch} {e : Env} {s : State} {m : MethodId} {args : Array Value} {below : List Frame} {meth : Method} {c : Code} {D : va_G} {tc : Nat → ClassId} {ad : Nat → Nat} (fc : Int32 → Int32 → TM → (Int32 → TM → Prop) → Prop) (dd : Nat) (hd : 9 ≤ dd) (hfc : ∀ (p1 : Int32) (p2 : Int32) (M : TM) (K : Int32 → TM → Prop), fc p1 p2 M K → MI yX13_areDone cX13_areDone 6 (some .boolean) dd ad [.ref (ad 699), .int p1, .int p2] M (fun r M' => (r = 0 ∨ r = 1) ∧ K r M')) (p1 : Int32) {K : Int32 → TM → Prop} (E : Ev p s m args meth c D tc ad RX13 cX13_isRepeated 3) (hr : meth.sig.returnType = (some .boolean)) : ∀ (n : Nat) (x1 : Int32) (x2 : Int32) (M : TM) , f_X13_isRepeated_L2 fc p1 K n x1 x2 M → Wa p l e (rmD (dd + 1)) s m args below meth c 0 0 (MQ below (va_Qi (fun r M' => (r = 0 ∨ r = 1) ∧ K r M') (EndW D tc ad) (A0 ad s.heap.size)) args s 0 0 (A0 ad s.heap.size)) D tc ad 3 M 2 [(0, .ref (ad 699)), (1, .int x1), (2, .int x2)] [] := by
  intro n
  induction n with
  | zero => intro x1 x2 M  h; exact h.elim
  | succ n ih =>
    intro x1 x2 M  h
    unfold f_X13_isRepeated_L2 at h
    refine ra_iload_n E dX13_isRepeated_2 rfl 2 rfl ?_
    refine ra_aload_n E dX13_isRepeated_3 rfl 0 rfl ?_
    refine gf_X13_24 E lm13 fl_X13_41 dX13_isRepeated_4 ?_
    refine ra_iconst E dX13_isRepeated_7 ki_5 ?_
    refine ra_iload_n E dX13_isRepeated_8 rfl 1 rfl ?_
    refine ra_imul E dX13_isRepeated_9 ?_
    refine ra_iconst E dX13_isRepeated_10 ki_1 ?_
    refine ra_iadd E dX13_isRepeated_11 ?_
    obtain ⟨g1, h⟩ := h
    refine ra_iald E (lmM (by decide)) (cel_708 tc ad) g1 dX13_isRepeated_12 ?_
    refine ra_icmp_ge (tgt := 44) E dX13_isRepeated_13 (by decide) (fun q2 => ?_) (fun q2 => ?_)
    · replace h := h.1 q2
      refine ra_iconst E dX13_isRepeated_44 ki_1 ?_
      exact ra_zret E hr rfl dX13_isRepeated_45 ⟨Or.inr rfl, h⟩
    · replace h := h.2 q2
      refine ra_aload_n E dX13_isRepeated_16 rfl 0 rfl ?_
      refine ra_iload_n E dX13_isRepeated_17 rfl 1 rfl ?_
      refine ra_iconst E dX13_isRepeated_18 ki_1 ?_
      refine ra_iadd E dX13_isRepeated_19 ?_
      refine ra_aload_n E dX13_isRepeated_20 rfl 0 rfl ?_
      refine gf_X13_24 E lm13 fl_X13_41 dX13_isRepeated_21 ?_
      refine ra_iconst E dX13_isRepeated_24 ki_5 ?_
      refine ra_iload_n E dX13_isRepeated_25 rfl 1 rfl ?_
      refine ra_imul E dX13_isRepeated_26 ?_
      refine ra_iconst E dX13_isRepeated_27 ki_2 ?_
      refine ra_iadd E dX13_isRepeated_28 ?_
      obtain ⟨g3, h⟩ := h
      refine ra_iald E (lmM (by decide)) (cel_708 tc ad) g3 dX13_isRepeated_29 ?_
      refine ra_callIV (rest := []) E (hfc _ _ _ _ h) lq_13 cv_X13_areDone ml_X13_423 (by decide) (lmM (by decide)) (fun R => ⟨_, cel_699 tc ad R⟩) rfl rfl rfl (Nat.le_of_ble_eq_true rfl) ⟨Nat.le_refl _, Nat.le_refl _⟩ ⟨Nat.zero_le _, Nat.zero_le _⟩ dX13_isRepeated_30 (fun r5 M4 h => ?_)
      obtain ⟨b6, h⟩ := h
      refine ra_if_ne (tgt := 38) E dX13_isRepeated_33 (by decide) (fun q7 => ?_) (fun q7 => ?_)
      · replace h := h.1 q7
        refine ra_iinc1 (L' := [(2, _), (0, _), (1, _)]) E dX13_isRepeated_38 2 rfl (by decide) rfl ?_
        refine ra_goto (tgt := 2) E dX13_isRepeated_41 (by decide) ?_
        exact ra_sub (L' := [(0, _), (1, _), (2, _)]) [1, 2, 0] rfl (ih _ _ _ h)
      · replace h := h.2 q7
        refine ra_iconst E dX13_isRepeated_36 ki_0 ?_
        exact ra_zret E hr rfl dX13_isRepeated_37 ⟨Or.inl rfl, h⟩
def f_X13_isRepeated (fc : Int32 → Int32 → TM → (Int32 → TM → Prop) → Prop) (p1 : Int32) (M : TM) (K : Int32 → TM → Prop) : Prop := ∃ n, f_X13_isRepeated_L2 fc p1 K n p1 (0 : Int32) M
set_option maxRecDepth 100000 in
set_option maxHeartbeats 4000000 in
theorem c_X13_isRepeated {ad : Nat → Nat} (fc : Int32 → Int32 → TM → (Int32 → TM → Prop) → Prop) (dd : Nat) (hd : 9 ≤ dd) (hfc : ∀ (p1 : Int32) (p2 : Int32) (M : TM) (K : Int32 → TM → Prop), fc p1 p2 M K → MI yX13_areDone cX13_areDone 6 (some .boolean) dd ad [.ref (ad 699), .int p1, .int p2] M (fun r M' => (r = 0 ∨ r = 1) ∧ K r M')) (p1 : Int32) (M : TM) (K : Int32 → TM → Prop) (h : f_X13_isRepeated fc p1 M K) : MI yX13_isRepeated cX13_isRepeated 3 (some .boolean) (dd + 1) ad [.ref (ad 699), .int p1] M (fun r M' => (r = 0 ∨ r = 1) ∧ K r M') := by
  refine MI_of RX13 rfl (by decide +kernel) (Nat.le_of_ble_eq_true rfl) (fun p l e s m below meth c D tc E hr => ?_)
  unfold f_X13_isRepeated at h
  refine ra_iconst E dX13_isRepeated_0 ki_0 ?_
  refine ra_istore_n (L' := [(2, _), (0, _), (1, _)]) E dX13_isRepeated_1 rfl (by decide) rfl ?_
  obtain ⟨n8, h⟩ := h
  exact ra_sub (L' := [(0, _), (1, _), (2, _)]) [1, 2, 0] rfl (l_X13_isRepeated_L2 fc dd hd hfc p1 E hr n8 _ _ _ h)
def f_X13_areDone_L2 (fc : Int32 → TM → (Int32 → TM → Prop) → Prop) (p1 : Int32) (p2 : Int32) (K : Int32 → TM → Prop) : Nat → Int32 → Int32 → TM → Prop
  | 0, _, _, _ => False
  | n + 1, x2, x3, M => ((x2 ≤ x3 → K (1 : Int32) M) ∧ (¬ x2 ≤ x3 → vp_in ((5 : Int32) * x3) 100 ∧ ((¬ (M 708 ((5 : Int32) * x3).toNatClampNeg) = (8 : Int32) → f_X13_does ((5 : Int32) * x3) M (fun r6 M5 => ((r6 = 0 → ∀ M9, M9 = u2 M5 699 27 ((M5 699 27) + (1 : Int32)) → f_X13_areDone_L2 fc p1 p2 K n x2 (x3 + (1 : Int32)) M9) ∧ (¬ r6 = 0 → K (0 : Int32) M5)))) ∧ ((M 708 ((5 : Int32) * x3).toNatClampNeg) = (8 : Int32) → fc x3 M (fun r13 M12 => ((¬ r13 = 0 → ∀ M17, M17 = u2 M12 699 27 ((M12 699 27) + (0 : Int32)) → vp_in (((5 : Int32) * x3) + (2 : Int32)) 100 ∧ f_X13_areDone_L2 fc p1 p2 K n x2 (M17 708 (((5 : Int32) * x3) + (2 : Int32)).toNatClampNeg) M17) ∧ (r13 = 0 → K (0 : Int32) M12)))))))
set_option maxRecDepth 100000 in
set_option maxHeartbeats 4000000 in
theorem l_X13_areDone_L2 {p : Program} {l : Launch} {e : Env} {s : State} {m : MethodId} {args : Array Value} {below : List Frame} {meth : Method} {c : Code} {D : va_G} {tc : Nat → ClassId} {ad : Nat → Nat} (fc : Int32 → TM → (Int32 → TM → Prop) → Prop) (dd : Nat) (hd : 9 ≤ dd) (hfc : ∀ (p1 : Int32) (M : TM) (K : Int32 → TM → Prop), fc p1 M K → MI yX13_isRepeated cX13_isRepeated 3 (some .boolean) dd ad [.ref (ad 699), .int p1] M (fun r M' => (r = 0 ∨ r = 1) ∧ K r M')) (p1 : Int32) (p2 : Int32) {K : Int32 → TM → Prop} (E : Ev p s m args meth c D tc ad RX13 cX13_areDone 6) (hr : meth.sig.returnType = (some .boolean)) : ∀ (n : Nat) (x2 : Int32) (x3 : Int32) (M : TM) , f_X13_areDone_L2 fc p1 p2 K n x2 x3 M → Wa p l e (rmD (dd + 1)) s m args below meth c 0 0 (MQ below (va_Qi (fun r M' => (r = 0 ∨ r = 1) ∧ K r M') (EndW D tc ad) (A0 ad s.heap.size)) args s 0 0 (A0 ad s.heap.size)) D tc ad 6 M 2 [(0, .ref (ad 699)), (2, .int x2), (3, .int x3)] [] := by
  intro n
  induction n with
  | zero => intro x2 x3 M  h; exact h.elim
  | succ n ih =>
    intro x2 x3 M  h
    unfold f_X13_areDone_L2 at h
    refine ra_iload_n E dX13_areDone_2 rfl 2 rfl ?_
    refine ra_iload_n E dX13_areDone_3 rfl 1 rfl ?_
    refine ra_icmp_ge (tgt := 101) E dX13_areDone_4 (by decide) (fun q1 => ?_) (fun q1 => ?_)
    · replace h := h.1 q1
      refine ra_iconst E dX13_areDone_101 ki_1 ?_
      exact ra_zret E hr rfl dX13_areDone_102 ⟨Or.inr rfl, h⟩
    · replace h := h.2 q1
      refine ra_iconst E dX13_areDone_7 ki_5 ?_
      refine ra_iload_n E dX13_areDone_8 rfl 2 rfl ?_
      refine ra_imul E dX13_areDone_9 ?_
      refine ra_istore (L' := [(4, _), (0, _), (2, _), (3, _)]) E dX13_areDone_10 (by decide) rfl ?_
      refine ra_aload_n E dX13_areDone_12 rfl 1 rfl ?_
      refine gf_X13_24 E lm13 fl_X13_41 dX13_areDone_13 ?_
      refine ra_iload E dX13_areDone_16 0 rfl ?_
      obtain ⟨g2, h⟩ := h
      refine ra_iald E (lmM (by decide)) (cel_708 tc ad) g2 dX13_areDone_18 ?_
      refine ra_bipush E dX13_areDone_19 kb_8 ?_
      refine ra_icmp_ne (tgt := 28) E dX13_areDone_21 (by decide) (fun q3 => ?_) (fun q3 => ?_)
      · replace h := h.1 q3
        refine ra_iconst E dX13_areDone_28 ki_0 ?_
        refine ra_istore (L' := [(5, _), (4, _), (0, _), (2, _), (3, _)]) E dX13_areDone_29 (by decide) rfl ?_
        refine ra_iload E dX13_areDone_31 0 rfl ?_
        refine ra_if_eq (tgt := 47) E dX13_areDone_33 (by decide) (fun _ => ?_) (fun q => absurd q (by decide))
        refine ra_aload_n E dX13_areDone_47 rfl 2 rfl ?_
        refine ra_iload E dX13_areDone_48 1 rfl ?_
        refine ra_callIV (rest := []) E (c_X13_does _ _ _ h) lq_13 cv_X13_does ml_X13_429 (by decide) (lmM (by decide)) (fun R => ⟨_, cel_699 tc ad R⟩) rfl rfl rfl (Nat.le_of_ble_eq_true rfl) (rR hd (Nat.le_of_ble_eq_true rfl)) ⟨Nat.zero_le _, Nat.zero_le _⟩ dX13_areDone_50 (fun r6 M5 h => ?_)
        refine ra_if_eq (tgt := 58) E dX13_areDone_53 (by decide) (fun q7 => ?_) (fun q7 => ?_)
        · replace h := h.1 q7
          refine ra_aload_n E dX13_areDone_58 rfl 2 rfl ?_
          refine ra_dup E dX13_areDone_59 rfl ?_
          refine gf_X13_27 E lm13 fl_X13_432 dX13_areDone_60 ?_
          refine ra_iload E dX13_areDone_63 0 rfl ?_
          refine ra_if_eq (tgt := 72) E dX13_areDone_65 (by decide) (fun _ => ?_) (fun q => absurd q (by decide))
          refine ra_iconst E dX13_areDone_72 ki_1 ?_
          refine ra_iadd E dX13_areDone_73 ?_
          refine pf_X13_27 E lm13 fl_X13_432 dX13_areDone_74 ?_
          replace h := h _ rfl
          refine ra_iload E dX13_areDone_77 0 rfl ?_
          refine ra_if_eq (tgt := 94) E dX13_areDone_79 (by decide) (fun _ => ?_) (fun q => absurd q (by decide))
          refine ra_iload_n E dX13_areDone_94 rfl 4 rfl ?_
          refine ra_iconst E dX13_areDone_95 ki_1 ?_
          refine ra_iadd E dX13_areDone_96 ?_
          refine ra_istore_n (L' := [(3, _), (5, _), (4, _), (0, _), (2, _)]) E dX13_areDone_97 rfl (by decide) rfl ?_
          refine ra_goto (tgt := 2) E dX13_areDone_98 (by decide) ?_
          exact ra_sub (L' := [(0, _), (2, _), (3, _)]) [3, 4, 0] rfl (ih _ _ _ h)
        · replace h := h.2 q7
          refine ra_iconst E dX13_areDone_56 ki_0 ?_
          exact ra_zret E hr rfl dX13_areDone_57 ⟨Or.inl rfl, h⟩
      · replace h := h.2 q3
        refine ra_iconst E dX13_areDone_24 ki_1 ?_
        refine ra_goto (tgt := 29) E dX13_areDone_25 (by decide) ?_
        refine ra_istore (L' := [(5, _), (4, _), (0, _), (2, _), (3, _)]) E dX13_areDone_29 (by decide) rfl ?_
        refine ra_iload E dX13_areDone_31 0 rfl ?_
        refine ra_if_eq (tgt := 47) E dX13_areDone_33 (by decide) (fun q => absurd q (by decide)) (fun _ => ?_)
        refine ra_aload_n E dX13_areDone_36 rfl 2 rfl ?_
        refine ra_iload_n E dX13_areDone_37 rfl 4 rfl ?_
        refine ra_callIV (rest := []) E (hfc _ _ _ h) lq_13 cv_X13_isRepeated ml_X13_426 (by decide) (lmM (by decide)) (fun R => ⟨_, cel_699 tc ad R⟩) rfl rfl rfl (Nat.le_of_ble_eq_true rfl) ⟨Nat.le_refl _, Nat.le_refl _⟩ ⟨Nat.zero_le _, Nat.zero_le _⟩ dX13_areDone_38 (fun r13 M12 h => ?_)
        obtain ⟨b14, h⟩ := h
        refine ra_if_ne (tgt := 58) E dX13_areDone_41 (by decide) (fun q15 => ?_) (fun q15 => ?_)
        · replace h := h.1 q15
          refine ra_aload_n E dX13_areDone_58 rfl 2 rfl ?_
          refine ra_dup E dX13_areDone_59 rfl ?_
          refine gf_X13_27 E lm13 fl_X13_432 dX13_areDone_60 ?_
          refine ra_iload E dX13_areDone_63 0 rfl ?_
          refine ra_if_eq (tgt := 72) E dX13_areDone_65 (by decide) (fun q => absurd q (by decide)) (fun _ => ?_)
          refine ra_iconst E dX13_areDone_68 ki_0 ?_
          refine ra_goto (tgt := 73) E dX13_areDone_69 (by decide) ?_
          refine ra_iadd E dX13_areDone_73 ?_
          refine pf_X13_27 E lm13 fl_X13_432 dX13_areDone_74 ?_
          replace h := h _ rfl
          refine ra_iload E dX13_areDone_77 0 rfl ?_
          refine ra_if_eq (tgt := 94) E dX13_areDone_79 (by decide) (fun q => absurd q (by decide)) (fun _ => ?_)
          refine ra_aload_n E dX13_areDone_82 rfl 2 rfl ?_
          refine gf_X13_24 E lm13 fl_X13_41 dX13_areDone_83 ?_
          refine ra_iload E dX13_areDone_86 1 rfl ?_
          refine ra_iconst E dX13_areDone_88 ki_2 ?_
          refine ra_iadd E dX13_areDone_89 ?_
          obtain ⟨g19, h⟩ := h
          refine ra_iald E (lmM (by decide)) (cel_708 tc ad) g19 dX13_areDone_90 ?_
          refine ra_goto (tgt := 97) E dX13_areDone_91 (by decide) ?_
          refine ra_istore_n (L' := [(3, _), (5, _), (4, _), (0, _), (2, _)]) E dX13_areDone_97 rfl (by decide) rfl ?_
          refine ra_goto (tgt := 2) E dX13_areDone_98 (by decide) ?_
          exact ra_sub (L' := [(0, _), (2, _), (3, _)]) [3, 4, 0] rfl (ih _ _ _ h)
        · replace h := h.2 q15
          refine ra_goto (tgt := 56) E dX13_areDone_44 (by decide) ?_
          refine ra_iconst E dX13_areDone_56 ki_0 ?_
          exact ra_zret E hr rfl dX13_areDone_57 ⟨Or.inl rfl, h⟩
def f_X13_areDone (fc : Int32 → TM → (Int32 → TM → Prop) → Prop) (p1 : Int32) (p2 : Int32) (M : TM) (K : Int32 → TM → Prop) : Prop := ∃ n, f_X13_areDone_L2 fc p1 p2 K n p2 p1 M
set_option maxRecDepth 100000 in
set_option maxHeartbeats 4000000 in
theorem c_X13_areDone {ad : Nat → Nat} (fc : Int32 → TM → (Int32 → TM → Prop) → Prop) (dd : Nat) (hd : 9 ≤ dd) (hfc : ∀ (p1 : Int32) (M : TM) (K : Int32 → TM → Prop), fc p1 M K → MI yX13_isRepeated cX13_isRepeated 3 (some .boolean) dd ad [.ref (ad 699), .int p1] M (fun r M' => (r = 0 ∨ r = 1) ∧ K r M')) (p1 : Int32) (p2 : Int32) (M : TM) (K : Int32 → TM → Prop) (h : f_X13_areDone fc p1 p2 M K) : MI yX13_areDone cX13_areDone 6 (some .boolean) (dd + 1) ad [.ref (ad 699), .int p1, .int p2] M (fun r M' => (r = 0 ∨ r = 1) ∧ K r M') := by
  refine MI_of RX13 rfl (by decide +kernel) (Nat.le_of_ble_eq_true rfl) (fun p l e s m below meth c D tc E hr => ?_)
  unfold f_X13_areDone at h
  refine ra_iload_n E dX13_areDone_0 rfl 1 rfl ?_
  refine ra_istore_n (L' := [(3, _), (0, _), (1, _), (2, _)]) E dX13_areDone_1 rfl (by decide) rfl ?_
  obtain ⟨n20, h⟩ := h
  exact ra_sub (L' := [(0, _), (2, _), (3, _)]) [1, 3, 0] rfl (l_X13_areDone_L2 fc dd hd hfc p1 p2 E hr n20 _ _ _ h)
def f_X13_areDoneR : Nat → Int32 → Int32 → TM → (Int32 → TM → Prop) → Prop
  | 0 => fun _ _ _ _ => False
  | k + 1 => fun p1 p2 M K => f_X13_areDone (fun p1 M K => f_X13_isRepeated (f_X13_areDoneR k) p1 M K) p1 p2 M K
theorem c_X13_areDoneR {ad : Nat → Nat} : ∀ (k : Nat) (p1 : Int32) (p2 : Int32) (M : TM) (K : Int32 → TM → Prop), f_X13_areDoneR k p1 p2 M K → MI yX13_areDone cX13_areDone 6 (some .boolean) (9 + 2 * k) ad [.ref (ad 699), .int p1, .int p2] M (fun r M' => (r = 0 ∨ r = 1) ∧ K r M') := by
  intro k
  induction k with
  | zero => intro p1 p2 M K h; exact h.elim
  | succ k ih => intro p1 p2 M K h; exact c_X13_areDone (fun p1 M K => f_X13_isRepeated (f_X13_areDoneR k) p1 M K) (9 + 2 * k + 1) (by omega) (fun p1 M K h => c_X13_isRepeated (f_X13_areDoneR k) (9 + 2 * k) (by omega) ih p1 M K h) p1 p2 M K h
def f_X13_isRepeatedC (p1 : Int32) (M : TM) (K : Int32 → TM → Prop) : Prop := f_X13_isRepeated (f_X13_areDoneR 3) p1 M K
theorem c_X13_isRepeatedC {ad : Nat → Nat} (p1 : Int32) (M : TM) (K : Int32 → TM → Prop) (h : f_X13_isRepeatedC p1 M K) : MI yX13_isRepeated cX13_isRepeated 3 (some .boolean) 16 ad [.ref (ad 699), .int p1] M (fun r M' => (r = 0 ∨ r = 1) ∧ K r M') := c_X13_isRepeated (f_X13_areDoneR 3) 15 (by omega) (c_X13_areDoneR 3) p1 M K h
def f_X13_areDoneC (p1 : Int32) (p2 : Int32) (M : TM) (K : Int32 → TM → Prop) : Prop := f_X13_areDoneR 3 p1 p2 M K
theorem c_X13_areDoneC {ad : Nat → Nat} (p1 : Int32) (p2 : Int32) (M : TM) (K : Int32 → TM → Prop) (h : f_X13_areDoneC p1 p2 M K) : MI yX13_areDone cX13_areDone 6 (some .boolean) 15 ad [.ref (ad 699), .int p1, .int p2] M (fun r M' => (r = 0 ∨ r = 1) ∧ K r M') := c_X13_areDoneR 3 p1 p2 M K h
def f_X2_addOrder (a0 : Nat) (p1 : Int32) (p2 : Int32) (p3 : Int32) (p4 : Int32) (M : TM) (K : TM → Prop) : Prop := f_X2_canAddOrder a0 p1 M (fun r2 M1 => ((r2 = 0 → K M1) ∧ (¬ r2 = 0 → vp_in (M1 a0 6) 30 ∧ f_X6_reset (a0 + 31 + (M1 a0 6).toNatClampNeg) p1 p2 p3 (((M1 a0 8) + p4) - (1 : Int32)) M1 (fun M6 => ∀ M7, M7 = u2 M6 a0 6 ((M6 a0 6) + (1 : Int32)) → K M7))))
set_option maxRecDepth 100000 in
set_option maxHeartbeats 4000000 in
theorem c_X2_addOrder {ad : Nat → Nat} (a0 : Nat) (h0 : IsCanal a0) (p1 : Int32) (p2 : Int32) (p3 : Int32) (p4 : Int32) (M : TM) (K : TM → Prop) (h : f_X2_addOrder a0 p1 p2 p3 p4 M K) : MV yX2_addOrder cX2_addOrder 5 2 ad [.ref (ad a0), .int p1, .int p2, .int p3, .int p4] M K := by
  refine MV_of RX2 rfl (by decide +kernel) (Nat.le_of_ble_eq_true rfl) (fun p l e s m below meth c D tc E hr => ?_)
  unfold f_X2_addOrder at h
  refine ra_aload_n E dX2_addOrder_0 rfl 0 rfl ?_
  refine ra_iload_n E dX2_addOrder_1 rfl 1 rfl ?_
  refine ra_callIV (rest := []) E (c_X2_canAddOrder _ h0 _ _ _ h) (lq_X2 _) cv_X2_canAddOrder ml_X2_94 (by decide) (lm (h0.add (j := 0) (by decide))) (fun R => ⟨_, cel_canal tc ad h0 R⟩) rfl rfl rfl (Nat.le_of_ble_eq_true rfl) ⟨Nat.le_of_ble_eq_true rfl, Nat.le_of_ble_eq_true rfl⟩ ⟨Nat.zero_le _, Nat.zero_le _⟩ dX2_addOrder_2 (fun r2 M1 h => ?_)
  obtain ⟨b3, h⟩ := h
  refine ra_if_eq (tgt := 42) E dX2_addOrder_5 (by decide) (fun q4 => ?_) (fun q4 => ?_)
  · replace h := h.1 q4
    exact ra_vret E hr dX2_addOrder_42 h
  · replace h := h.2 q4
    refine ra_aload_n E dX2_addOrder_8 rfl 0 rfl ?_
    refine gf_X2_7 E h0 fl_X2_42 dX2_addOrder_9 ?_
    refine ra_aload_n E dX2_addOrder_12 rfl 0 rfl ?_
    refine gf_X2_6 E h0 fl_X2_37 dX2_addOrder_13 ?_
    obtain ⟨g5, h⟩ := h
    refine ra_aald E (lm (h0.add (by decide))) (cel_ords tc ad h0) rfl g5 dX2_addOrder_16 ?_
    refine ra_iload_n E dX2_addOrder_17 rfl 1 rfl ?_
    refine ra_iload_n E dX2_addOrder_18 rfl 2 rfl ?_
    refine ra_iload_n E dX2_addOrder_19 rfl 3 rfl ?_
    refine ra_aload_n E dX2_addOrder_20 rfl 0 rfl ?_
    refine gf_X2_8 E h0 fl_X2_46 dX2_addOrder_21 ?_
    refine ra_iload E dX2_addOrder_24 4 rfl ?_
    refine ra_iadd E dX2_addOrder_26 ?_
    refine ra_iconst E dX2_addOrder_27 ki_1 ?_
    refine ra_isub E dX2_addOrder_28 ?_
    refine ra_callVV (rest := []) E (c_X6_reset _ (isOrder_of h0 g5) _ _ _ _ _ _ h) (lq_X6 _) cv_X6_reset ml_X2_97 (by decide) (lm (isOrder_of h0 g5).lt) (fun R => ⟨_, cel_order tc ad (isOrder_of h0 g5) R⟩) rfl rfl rfl (Nat.le_of_ble_eq_true rfl) ⟨Nat.le_of_ble_eq_true rfl, Nat.le_of_ble_eq_true rfl⟩ ⟨Nat.zero_le _, Nat.zero_le _⟩ dX2_addOrder_29 (fun M6 h => ?_)
    refine ra_aload_n E dX2_addOrder_32 rfl 0 rfl ?_
    refine ra_dup E dX2_addOrder_33 rfl ?_
    refine gf_X2_6 E h0 fl_X2_37 dX2_addOrder_34 ?_
    refine ra_iconst E dX2_addOrder_37 ki_1 ?_
    refine ra_iadd E dX2_addOrder_38 ?_
    refine pf_X2_6 E h0 fl_X2_37 dX2_addOrder_39 ?_
    replace h := h _ rfl
    exact ra_vret E hr dX2_addOrder_42 h
