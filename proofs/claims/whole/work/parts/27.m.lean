def f_X13_commandHere_L2  (K : Int32 → TM → Prop) : Nat → Int32 → TM → Prop
  | 0, _, _ => False
  | n + 1, x1, M => (((9 : Int32) ≤ x1 → K (-1 : Int32) M) ∧ (¬ (9 : Int32) ≤ x1 → vp_in x1 9 ∧ f_X13_isWord (x1.toNatClampNeg) M (fun r4 M3 => ((r4 = 0 → f_X13_commandHere_L2 K n (x1 + 1) M3) ∧ (¬ r4 = 0 → K x1 M3)))))
set_option maxRecDepth 100000 in
set_option maxHeartbeats 4000000 in
theorem l_X13_commandHere_L2 {p : Program} {l : Launch} {e : Env} {s : State} {m : MethodId} {args : Array Value} {below : List Frame} {meth : Method} {c : Code} {D : va_G} {tc : Nat → ClassId} {ad : Nat → Nat}  {K : Int32 → TM → Prop} (E : Ev p s m args meth c D tc ad RX13 cX13_commandHere 2) (hr : meth.sig.returnType = (some .int)) : ∀ (n : Nat) (x1 : Int32) (M : TM) , f_X13_commandHere_L2  K n x1 M → Wa p l e (rmD 5) s m args below meth c 0 0 (MQ below (va_Qi K (EndW D tc ad) (A0 ad s.heap.size)) args s 0 0 (A0 ad s.heap.size)) D tc ad 2 M 2 [(0, .ref (ad 699)), (1, .int x1)] [] := by
  intro n
  induction n with
  | zero => intro x1 M  h; exact h.elim
  | succ n ih =>
    intro x1 M  h
    unfold f_X13_commandHere_L2 at h
    refine ra_iload_n E dX13_commandHere_2 rfl 1 rfl ?_
    refine ra_aload_n E dX13_commandHere_3 rfl 0 rfl ?_
    refine gf_X13_25 E lm13 fl_X13_64 dX13_commandHere_4 ?_
    refine ra_alen (n := 9) (v := 9) E (lmM (by decide)) (fun R => ⟨_, (cel_709 tc ad) R, rfl⟩) rfl (by decide) dX13_commandHere_7 ?_
    refine ra_icmp_ge (tgt := 32) E dX13_commandHere_8 (by decide) (fun q1 => ?_) (fun q1 => ?_)
    · replace h := h.1 q1
      refine ra_iconst E dX13_commandHere_32 ki_m1 ?_
      exact ra_iret E hr dX13_commandHere_33 h
    · replace h := h.2 q1
      refine ra_aload_n E dX13_commandHere_11 rfl 0 rfl ?_
      refine ra_aload_n E dX13_commandHere_12 rfl 0 rfl ?_
      refine gf_X13_25 E lm13 fl_X13_64 dX13_commandHere_13 ?_
      refine ra_iload_n E dX13_commandHere_16 rfl 1 rfl ?_
      obtain ⟨g2, h⟩ := h
      refine ra_aald E (lmM (by decide)) (cel_709 tc ad) rfl g2 dX13_commandHere_17 ?_
      refine ra_callIV (rest := []) E (c_X13_isWord _ (Nat.lt_of_lt_of_le (vp_lt g2) (by decide)) _ _ h) lq_13 cv_X13_isWord ml_X13_342 (by decide) (lmM (by decide)) (fun R => ⟨_, cel_699 tc ad R⟩) rfl rfl rfl (Nat.le_of_ble_eq_true rfl) ⟨Nat.le_of_ble_eq_true rfl, Nat.le_of_ble_eq_true rfl⟩ ⟨Nat.zero_le _, Nat.zero_le _⟩ dX13_commandHere_18 (fun r4 M3 h => ?_)
      obtain ⟨b5, h⟩ := h
      refine ra_if_eq (tgt := 26) E dX13_commandHere_21 (by decide) (fun q6 => ?_) (fun q6 => ?_)
      · replace h := h.1 q6
        refine ra_iinc1 (L' := [(1, _), (0, _)]) E dX13_commandHere_26 1 rfl (by decide) rfl ?_
        refine ra_goto (tgt := 2) E dX13_commandHere_29 (by decide) ?_
        exact ra_sub (L' := [(0, _), (1, _)]) [1, 0] rfl (ih _ _ h)
      · replace h := h.2 q6
        refine ra_iload_n E dX13_commandHere_24 rfl 1 rfl ?_
        exact ra_iret E hr dX13_commandHere_25 h
def f_X13_commandHere  (M : TM) (K : Int32 → TM → Prop) : Prop := ∃ n, f_X13_commandHere_L2 K n (0 : Int32) M
set_option maxRecDepth 100000 in
set_option maxHeartbeats 4000000 in
theorem c_X13_commandHere {ad : Nat → Nat}  (M : TM) (K : Int32 → TM → Prop) (h : f_X13_commandHere  M K) : MI yX13_commandHere cX13_commandHere 2 (some .int) 5 ad [.ref (ad 699)] M K := by
  refine MI_of RX13 rfl (by decide +kernel) (Nat.le_of_ble_eq_true rfl) (fun p l e s m below meth c D tc E hr => ?_)
  unfold f_X13_commandHere at h
  refine ra_iconst E dX13_commandHere_0 ki_0 ?_
  refine ra_istore_n (L' := [(1, _), (0, _)]) E dX13_commandHere_1 rfl (by decide) rfl ?_
  obtain ⟨n7, h⟩ := h
  exact ra_sub (L' := [(0, _), (1, _)]) [1, 0] rfl (l_X13_commandHere_L2 E hr n7 _ _ h)
def f_L_placeOf (p1 : Int32) (M : TM) (K : Int32 → TM → Prop) : Prop := f_X12_placeOf p1 M (fun r2 M1 => ∀ M4, M4 = u2 M1 710 0 r2 → K (0 : Int32) M4) (fun E9 M3 => (E9 = "java/lang/IndexOutOfBoundsException" ∧ K (1 : Int32) M3))
set_option maxRecDepth 100000 in
set_option maxHeartbeats 4000000 in
theorem c_L_placeOf {ad : Nat → Nat} (p1 : Int32) (M : TM) (K : Int32 → TM → Prop) (h : f_L_placeOf p1 M K) : XW yL_placeOf cL_placeOf 4 (some .int) [(0, 9, 12, 18)] 9 1 ad [.ref (ad 0), .int p1, .ref (ad 710)] M K := by
  refine XW_of RL rfl (by decide +kernel) (Nat.le_of_ble_eq_true rfl) (fun p l e s m below meth c D tc E hr hfl hTab => ?_)
  unfold f_L_placeOf at h
  refine ra_aload_n E dL_placeOf_0 rfl 2 rfl ?_
  refine ra_iconst E dL_placeOf_1 ki_0 ?_
  refine ra_aload_n E dL_placeOf_2 rfl 0 rfl ?_
  refine ra_iload_n E dL_placeOf_3 rfl 1 rfl ?_
  refine rx_callIVH (rest := [_, _]) E hfl (c_X12_placeOf _ _ _ _ h) (lq_X12 _) cv_X12_placeOf ml_L_35 (by decide) (lm (by decide)) (fun R => ⟨_, cel_0 tc ad R⟩) rfl rfl rfl (Nat.le_of_ble_eq_true rfl) ⟨Nat.le_of_ble_eq_true rfl, Nat.le_of_ble_eq_true rfl⟩ ⟨Nat.le_of_ble_eq_true rfl, Nat.le_of_ble_eq_true rfl⟩ dL_placeOf_4 (fun E9 M3 hX => ?_) (fun r2 M1 h => ?_)
  · obtain ⟨rfl, h⟩ := hX
    · exact rx_catch hTab E [] [] ⟨0, 9, 12, 18⟩ rfl (fun _ hz => absurd hz List.not_mem_nil) (by decide +kernel) (by decide) kl_18 (by decide +kernel) (fun q5 => by
        refine ra_astore_n (L' := [(3, _), (0, _), (1, _), (2, _)]) E dL_placeOf_12 rfl (by decide) rfl ?_
        refine ra_iconst E dL_placeOf_13 ki_1 ?_
        exact rx_iret E hr dL_placeOf_14 ⟨Nat.le_of_ble_eq_true rfl, Nat.le_of_ble_eq_true rfl⟩ h
        )
  · skip
    refine ra_i2l E dL_placeOf_7 rfl ?_
    refine ra_last E (Nat.le_of_ble_eq_true rfl) rfl dL_placeOf_8 ?_
    replace h := h _ rfl
    refine ra_goto (tgt := 15) E dL_placeOf_9 (by decide) ?_
    refine ra_iconst E dL_placeOf_15 ki_0 ?_
    exact rx_iret E hr dL_placeOf_16 ⟨Nat.le_of_ble_eq_true rfl, Nat.le_of_ble_eq_true rfl⟩ h
def f_L_targetOf (p1 : Int32) (M : TM) (K : Int32 → TM → Prop) : Prop := f_X12_targetOf p1 M (fun r2 M1 => ∀ M4, M4 = u2 M1 710 0 r2 → K (0 : Int32) M4) (fun E9 M3 => (E9 = "java/lang/IndexOutOfBoundsException" ∧ K (1 : Int32) M3))
set_option maxRecDepth 100000 in
set_option maxHeartbeats 4000000 in
theorem c_L_targetOf {ad : Nat → Nat} (p1 : Int32) (M : TM) (K : Int32 → TM → Prop) (h : f_L_targetOf p1 M K) : XW yL_targetOf cL_targetOf 4 (some .int) [(0, 9, 12, 18)] 9 1 ad [.ref (ad 0), .int p1, .ref (ad 710)] M K := by
  refine XW_of RL rfl (by decide +kernel) (Nat.le_of_ble_eq_true rfl) (fun p l e s m below meth c D tc E hr hfl hTab => ?_)
  unfold f_L_targetOf at h
  refine ra_aload_n E dL_targetOf_0 rfl 2 rfl ?_
  refine ra_iconst E dL_targetOf_1 ki_0 ?_
  refine ra_aload_n E dL_targetOf_2 rfl 0 rfl ?_
  refine ra_iload_n E dL_targetOf_3 rfl 1 rfl ?_
  refine rx_callIVH (rest := [_, _]) E hfl (c_X12_targetOf _ _ _ _ h) (lq_X12 _) cv_X12_targetOf ml_L_38 (by decide) (lm (by decide)) (fun R => ⟨_, cel_0 tc ad R⟩) rfl rfl rfl (Nat.le_of_ble_eq_true rfl) ⟨Nat.le_of_ble_eq_true rfl, Nat.le_of_ble_eq_true rfl⟩ ⟨Nat.le_of_ble_eq_true rfl, Nat.le_of_ble_eq_true rfl⟩ dL_targetOf_4 (fun E9 M3 hX => ?_) (fun r2 M1 h => ?_)
  · obtain ⟨rfl, h⟩ := hX
    · exact rx_catch hTab E [] [] ⟨0, 9, 12, 18⟩ rfl (fun _ hz => absurd hz List.not_mem_nil) (by decide +kernel) (by decide) kl_18 (by decide +kernel) (fun q5 => by
        refine ra_astore_n (L' := [(3, _), (0, _), (1, _), (2, _)]) E dL_targetOf_12 rfl (by decide) rfl ?_
        refine ra_iconst E dL_targetOf_13 ki_1 ?_
        exact rx_iret E hr dL_targetOf_14 ⟨Nat.le_of_ble_eq_true rfl, Nat.le_of_ble_eq_true rfl⟩ h
        )
  · skip
    refine ra_i2l E dL_targetOf_7 rfl ?_
    refine ra_last E (Nat.le_of_ble_eq_true rfl) rfl dL_targetOf_8 ?_
    replace h := h _ rfl
    refine ra_goto (tgt := 15) E dL_targetOf_9 (by decide) ?_
    refine ra_iconst E dL_targetOf_15 ki_0 ?_
    exact rx_iret E hr dL_targetOf_16 ⟨Nat.le_of_ble_eq_true rfl, Nat.le_of_ble_eq_true rfl⟩ h
def f_L_heightOf (p1 : Int32) (M : TM) (K : Int32 → TM → Prop) : Prop := f_X12_heightOf p1 M (fun r2 M1 => ∀ M4, M4 = u2 M1 710 0 r2 → K (0 : Int32) M4) (fun E9 M3 => (E9 = "java/lang/IndexOutOfBoundsException" ∧ K (1 : Int32) M3))
set_option maxRecDepth 100000 in
set_option maxHeartbeats 4000000 in
theorem c_L_heightOf {ad : Nat → Nat} (p1 : Int32) (M : TM) (K : Int32 → TM → Prop) (h : f_L_heightOf p1 M K) : XW yL_heightOf cL_heightOf 4 (some .int) [(0, 9, 12, 18)] 9 1 ad [.ref (ad 0), .int p1, .ref (ad 710)] M K := by
  refine XW_of RL rfl (by decide +kernel) (Nat.le_of_ble_eq_true rfl) (fun p l e s m below meth c D tc E hr hfl hTab => ?_)
  unfold f_L_heightOf at h
  refine ra_aload_n E dL_heightOf_0 rfl 2 rfl ?_
  refine ra_iconst E dL_heightOf_1 ki_0 ?_
  refine ra_aload_n E dL_heightOf_2 rfl 0 rfl ?_
  refine ra_iload_n E dL_heightOf_3 rfl 1 rfl ?_
  refine rx_callIVH (rest := [_, _]) E hfl (c_X12_heightOf _ _ _ _ h) (lq_X12 _) cv_X12_heightOf ml_L_41 (by decide) (lm (by decide)) (fun R => ⟨_, cel_0 tc ad R⟩) rfl rfl rfl (Nat.le_of_ble_eq_true rfl) ⟨Nat.le_of_ble_eq_true rfl, Nat.le_of_ble_eq_true rfl⟩ ⟨Nat.le_of_ble_eq_true rfl, Nat.le_of_ble_eq_true rfl⟩ dL_heightOf_4 (fun E9 M3 hX => ?_) (fun r2 M1 h => ?_)
  · obtain ⟨rfl, h⟩ := hX
    · exact rx_catch hTab E [] [] ⟨0, 9, 12, 18⟩ rfl (fun _ hz => absurd hz List.not_mem_nil) (by decide +kernel) (by decide) kl_18 (by decide +kernel) (fun q5 => by
        refine ra_astore_n (L' := [(3, _), (0, _), (1, _), (2, _)]) E dL_heightOf_12 rfl (by decide) rfl ?_
        refine ra_iconst E dL_heightOf_13 ki_1 ?_
        exact rx_iret E hr dL_heightOf_14 ⟨Nat.le_of_ble_eq_true rfl, Nat.le_of_ble_eq_true rfl⟩ h
        )
  · skip
    refine ra_i2l E dL_heightOf_7 rfl ?_
    refine ra_last E (Nat.le_of_ble_eq_true rfl) rfl dL_heightOf_8 ?_
    replace h := h _ rfl
    refine ra_goto (tgt := 15) E dL_heightOf_9 (by decide) ?_
    refine ra_iconst E dL_heightOf_15 ki_0 ?_
    exact rx_iret E hr dL_heightOf_16 ⟨Nat.le_of_ble_eq_true rfl, Nat.le_of_ble_eq_true rfl⟩ h
def f_L_timeInLock (p1 : Int32) (M : TM) (K : Int32 → TM → Prop) : Prop := f_X12_timeInLock p1 M (fun r2 M1 => ∀ M4, M4 = u2 M1 710 0 r2 → K (0 : Int32) M4) (fun E9 M3 => (E9 = "java/lang/IndexOutOfBoundsException" ∧ K (1 : Int32) M3))
set_option maxRecDepth 100000 in
set_option maxHeartbeats 4000000 in
theorem c_L_timeInLock {ad : Nat → Nat} (p1 : Int32) (M : TM) (K : Int32 → TM → Prop) (h : f_L_timeInLock p1 M K) : XW yL_timeInLock cL_timeInLock 4 (some .int) [(0, 9, 12, 18)] 9 1 ad [.ref (ad 0), .int p1, .ref (ad 710)] M K := by
  refine XW_of RL rfl (by decide +kernel) (Nat.le_of_ble_eq_true rfl) (fun p l e s m below meth c D tc E hr hfl hTab => ?_)
  unfold f_L_timeInLock at h
  refine ra_aload_n E dL_timeInLock_0 rfl 2 rfl ?_
  refine ra_iconst E dL_timeInLock_1 ki_0 ?_
  refine ra_aload_n E dL_timeInLock_2 rfl 0 rfl ?_
  refine ra_iload_n E dL_timeInLock_3 rfl 1 rfl ?_
  refine rx_callIVH (rest := [_, _]) E hfl (c_X12_timeInLock _ _ _ _ h) (lq_X12 _) cv_X12_timeInLock ml_L_44 (by decide) (lm (by decide)) (fun R => ⟨_, cel_0 tc ad R⟩) rfl rfl rfl (Nat.le_of_ble_eq_true rfl) ⟨Nat.le_of_ble_eq_true rfl, Nat.le_of_ble_eq_true rfl⟩ ⟨Nat.le_of_ble_eq_true rfl, Nat.le_of_ble_eq_true rfl⟩ dL_timeInLock_4 (fun E9 M3 hX => ?_) (fun r2 M1 h => ?_)
  · obtain ⟨rfl, h⟩ := hX
    · exact rx_catch hTab E [] [] ⟨0, 9, 12, 18⟩ rfl (fun _ hz => absurd hz List.not_mem_nil) (by decide +kernel) (by decide) kl_18 (by decide +kernel) (fun q5 => by
        refine ra_astore_n (L' := [(3, _), (0, _), (1, _), (2, _)]) E dL_timeInLock_12 rfl (by decide) rfl ?_
        refine ra_iconst E dL_timeInLock_13 ki_1 ?_
        exact rx_iret E hr dL_timeInLock_14 ⟨Nat.le_of_ble_eq_true rfl, Nat.le_of_ble_eq_true rfl⟩ h
        )
  · skip
    refine ra_i2l E dL_timeInLock_7 rfl ?_
    refine ra_last E (Nat.le_of_ble_eq_true rfl) rfl dL_timeInLock_8 ?_
    replace h := h _ rfl
    refine ra_goto (tgt := 15) E dL_timeInLock_9 (by decide) ?_
    refine ra_iconst E dL_timeInLock_15 ki_0 ?_
    exact rx_iret E hr dL_timeInLock_16 ⟨Nat.le_of_ble_eq_true rfl, Nat.le_of_ble_eq_true rfl⟩ h
def f_L_flour (p1 : Int32) (M : TM) (K : Int32 → TM → Prop) : Prop := f_X12_flour p1 M (fun r2 M1 => ∀ M4, M4 = u2 M1 710 0 r2 → K (0 : Int32) M4) (fun E9 M3 => (E9 = "java/lang/IndexOutOfBoundsException" ∧ K (1 : Int32) M3))
set_option maxRecDepth 100000 in
set_option maxHeartbeats 4000000 in
theorem c_L_flour {ad : Nat → Nat} (p1 : Int32) (M : TM) (K : Int32 → TM → Prop) (h : f_L_flour p1 M K) : XW yL_flour cL_flour 4 (some .int) [(0, 9, 12, 18)] 9 1 ad [.ref (ad 0), .int p1, .ref (ad 710)] M K := by
  refine XW_of RL rfl (by decide +kernel) (Nat.le_of_ble_eq_true rfl) (fun p l e s m below meth c D tc E hr hfl hTab => ?_)
  unfold f_L_flour at h
  refine ra_aload_n E dL_flour_0 rfl 2 rfl ?_
  refine ra_iconst E dL_flour_1 ki_0 ?_
  refine ra_aload_n E dL_flour_2 rfl 0 rfl ?_
  refine ra_iload_n E dL_flour_3 rfl 1 rfl ?_
  refine rx_callIVH (rest := [_, _]) E hfl (c_X12_flour _ _ _ _ h) (lq_X12 _) cv_X12_flour ml_L_47 (by decide) (lm (by decide)) (fun R => ⟨_, cel_0 tc ad R⟩) rfl rfl rfl (Nat.le_of_ble_eq_true rfl) ⟨Nat.le_of_ble_eq_true rfl, Nat.le_of_ble_eq_true rfl⟩ ⟨Nat.le_of_ble_eq_true rfl, Nat.le_of_ble_eq_true rfl⟩ dL_flour_4 (fun E9 M3 hX => ?_) (fun r2 M1 h => ?_)
  · obtain ⟨rfl, h⟩ := hX
    · exact rx_catch hTab E [] [] ⟨0, 9, 12, 18⟩ rfl (fun _ hz => absurd hz List.not_mem_nil) (by decide +kernel) (by decide) kl_18 (by decide +kernel) (fun q5 => by
        refine ra_astore_n (L' := [(3, _), (0, _), (1, _), (2, _)]) E dL_flour_12 rfl (by decide) rfl ?_
        refine ra_iconst E dL_flour_13 ki_1 ?_
        exact rx_iret E hr dL_flour_14 ⟨Nat.le_of_ble_eq_true rfl, Nat.le_of_ble_eq_true rfl⟩ h
        )
  · skip
    refine ra_i2l E dL_flour_7 rfl ?_
    refine ra_last E (Nat.le_of_ble_eq_true rfl) rfl dL_flour_8 ?_
    replace h := h _ rfl
    refine ra_goto (tgt := 15) E dL_flour_9 (by decide) ?_
    refine ra_iconst E dL_flour_15 ki_0 ?_
    exact rx_iret E hr dL_flour_16 ⟨Nat.le_of_ble_eq_true rfl, Nat.le_of_ble_eq_true rfl⟩ h
def f_L_cleanPairs (p1 : Int32) (M : TM) (K : Int32 → TM → Prop) : Prop := f_X12_cleanPairs p1 M (fun r2 M1 => ∀ M4, M4 = u2 M1 710 0 r2 → K (0 : Int32) M4) (fun E9 M3 => (E9 = "java/lang/IndexOutOfBoundsException" ∧ K (1 : Int32) M3))
set_option maxRecDepth 100000 in
set_option maxHeartbeats 4000000 in
theorem c_L_cleanPairs {ad : Nat → Nat} (p1 : Int32) (M : TM) (K : Int32 → TM → Prop) (h : f_L_cleanPairs p1 M K) : XW yL_cleanPairs cL_cleanPairs 4 (some .int) [(0, 9, 12, 18)] 9 1 ad [.ref (ad 0), .int p1, .ref (ad 710)] M K := by
  refine XW_of RL rfl (by decide +kernel) (Nat.le_of_ble_eq_true rfl) (fun p l e s m below meth c D tc E hr hfl hTab => ?_)
  unfold f_L_cleanPairs at h
  refine ra_aload_n E dL_cleanPairs_0 rfl 2 rfl ?_
  refine ra_iconst E dL_cleanPairs_1 ki_0 ?_
  refine ra_aload_n E dL_cleanPairs_2 rfl 0 rfl ?_
  refine ra_iload_n E dL_cleanPairs_3 rfl 1 rfl ?_
  refine rx_callIVH (rest := [_, _]) E hfl (c_X12_cleanPairs _ _ _ _ h) (lq_X12 _) cv_X12_cleanPairs ml_L_50 (by decide) (lm (by decide)) (fun R => ⟨_, cel_0 tc ad R⟩) rfl rfl rfl (Nat.le_of_ble_eq_true rfl) ⟨Nat.le_of_ble_eq_true rfl, Nat.le_of_ble_eq_true rfl⟩ ⟨Nat.le_of_ble_eq_true rfl, Nat.le_of_ble_eq_true rfl⟩ dL_cleanPairs_4 (fun E9 M3 hX => ?_) (fun r2 M1 h => ?_)
  · obtain ⟨rfl, h⟩ := hX
    · exact rx_catch hTab E [] [] ⟨0, 9, 12, 18⟩ rfl (fun _ hz => absurd hz List.not_mem_nil) (by decide +kernel) (by decide) kl_18 (by decide +kernel) (fun q5 => by
        refine ra_astore_n (L' := [(3, _), (0, _), (1, _), (2, _)]) E dL_cleanPairs_12 rfl (by decide) rfl ?_
        refine ra_iconst E dL_cleanPairs_13 ki_1 ?_
        exact rx_iret E hr dL_cleanPairs_14 ⟨Nat.le_of_ble_eq_true rfl, Nat.le_of_ble_eq_true rfl⟩ h
        )
  · skip
    refine ra_i2l E dL_cleanPairs_7 rfl ?_
    refine ra_last E (Nat.le_of_ble_eq_true rfl) rfl dL_cleanPairs_8 ?_
    replace h := h _ rfl
    refine ra_goto (tgt := 15) E dL_cleanPairs_9 (by decide) ?_
    refine ra_iconst E dL_cleanPairs_15 ki_0 ?_
    exact rx_iret E hr dL_cleanPairs_16 ⟨Nat.le_of_ble_eq_true rfl, Nat.le_of_ble_eq_true rfl⟩ h
def f_L_dirtyPairs (p1 : Int32) (M : TM) (K : Int32 → TM → Prop) : Prop := f_X12_dirtyPairs p1 M (fun r2 M1 => ∀ M4, M4 = u2 M1 710 0 r2 → K (0 : Int32) M4) (fun E9 M3 => (E9 = "java/lang/IndexOutOfBoundsException" ∧ K (1 : Int32) M3))
set_option maxRecDepth 100000 in
set_option maxHeartbeats 4000000 in
theorem c_L_dirtyPairs {ad : Nat → Nat} (p1 : Int32) (M : TM) (K : Int32 → TM → Prop) (h : f_L_dirtyPairs p1 M K) : XW yL_dirtyPairs cL_dirtyPairs 4 (some .int) [(0, 9, 12, 18)] 9 1 ad [.ref (ad 0), .int p1, .ref (ad 710)] M K := by
  refine XW_of RL rfl (by decide +kernel) (Nat.le_of_ble_eq_true rfl) (fun p l e s m below meth c D tc E hr hfl hTab => ?_)
  unfold f_L_dirtyPairs at h
  refine ra_aload_n E dL_dirtyPairs_0 rfl 2 rfl ?_
  refine ra_iconst E dL_dirtyPairs_1 ki_0 ?_
  refine ra_aload_n E dL_dirtyPairs_2 rfl 0 rfl ?_
  refine ra_iload_n E dL_dirtyPairs_3 rfl 1 rfl ?_
  refine rx_callIVH (rest := [_, _]) E hfl (c_X12_dirtyPairs _ _ _ _ h) (lq_X12 _) cv_X12_dirtyPairs ml_L_53 (by decide) (lm (by decide)) (fun R => ⟨_, cel_0 tc ad R⟩) rfl rfl rfl (Nat.le_of_ble_eq_true rfl) ⟨Nat.le_of_ble_eq_true rfl, Nat.le_of_ble_eq_true rfl⟩ ⟨Nat.le_of_ble_eq_true rfl, Nat.le_of_ble_eq_true rfl⟩ dL_dirtyPairs_4 (fun E9 M3 hX => ?_) (fun r2 M1 h => ?_)
  · obtain ⟨rfl, h⟩ := hX
    · exact rx_catch hTab E [] [] ⟨0, 9, 12, 18⟩ rfl (fun _ hz => absurd hz List.not_mem_nil) (by decide +kernel) (by decide) kl_18 (by decide +kernel) (fun q5 => by
        refine ra_astore_n (L' := [(3, _), (0, _), (1, _), (2, _)]) E dL_dirtyPairs_12 rfl (by decide) rfl ?_
        refine ra_iconst E dL_dirtyPairs_13 ki_1 ?_
        exact rx_iret E hr dL_dirtyPairs_14 ⟨Nat.le_of_ble_eq_true rfl, Nat.le_of_ble_eq_true rfl⟩ h
        )
  · skip
    refine ra_i2l E dL_dirtyPairs_7 rfl ?_
    refine ra_last E (Nat.le_of_ble_eq_true rfl) rfl dL_dirtyPairs_8 ?_
    replace h := h _ rfl
    refine ra_goto (tgt := 15) E dL_dirtyPairs_9 (by decide) ?_
    refine ra_iconst E dL_dirtyPairs_15 ki_0 ?_
    exact rx_iret E hr dL_dirtyPairs_16 ⟨Nat.le_of_ble_eq_true rfl, Nat.le_of_ble_eq_true rfl⟩ h
def f_L_queueLength (p1 : Int32) (M : TM) (K : Int32 → TM → Prop) : Prop := f_X12_queueLength p1 M (fun r2 M1 => ∀ M4, M4 = u2 M1 710 0 r2 → K (0 : Int32) M4) (fun E9 M3 => (E9 = "java/lang/IndexOutOfBoundsException" ∧ K (1 : Int32) M3))
set_option maxRecDepth 100000 in
set_option maxHeartbeats 4000000 in
theorem c_L_queueLength {ad : Nat → Nat} (p1 : Int32) (M : TM) (K : Int32 → TM → Prop) (h : f_L_queueLength p1 M K) : XW yL_queueLength cL_queueLength 4 (some .int) [(0, 9, 12, 18)] 9 1 ad [.ref (ad 0), .int p1, .ref (ad 710)] M K := by
  refine XW_of RL rfl (by decide +kernel) (Nat.le_of_ble_eq_true rfl) (fun p l e s m below meth c D tc E hr hfl hTab => ?_)
  unfold f_L_queueLength at h
  refine ra_aload_n E dL_queueLength_0 rfl 2 rfl ?_
  refine ra_iconst E dL_queueLength_1 ki_0 ?_
  refine ra_aload_n E dL_queueLength_2 rfl 0 rfl ?_
  refine ra_iload_n E dL_queueLength_3 rfl 1 rfl ?_
  refine rx_callIVH (rest := [_, _]) E hfl (c_X12_queueLength _ _ _ _ h) (lq_X12 _) cv_X12_queueLength ml_L_56 (by decide) (lm (by decide)) (fun R => ⟨_, cel_0 tc ad R⟩) rfl rfl rfl (Nat.le_of_ble_eq_true rfl) ⟨Nat.le_of_ble_eq_true rfl, Nat.le_of_ble_eq_true rfl⟩ ⟨Nat.le_of_ble_eq_true rfl, Nat.le_of_ble_eq_true rfl⟩ dL_queueLength_4 (fun E9 M3 hX => ?_) (fun r2 M1 h => ?_)
  · obtain ⟨rfl, h⟩ := hX
    · exact rx_catch hTab E [] [] ⟨0, 9, 12, 18⟩ rfl (fun _ hz => absurd hz List.not_mem_nil) (by decide +kernel) (by decide) kl_18 (by decide +kernel) (fun q5 => by
        refine ra_astore_n (L' := [(3, _), (0, _), (1, _), (2, _)]) E dL_queueLength_12 rfl (by decide) rfl ?_
        refine ra_iconst E dL_queueLength_13 ki_1 ?_
        exact rx_iret E hr dL_queueLength_14 ⟨Nat.le_of_ble_eq_true rfl, Nat.le_of_ble_eq_true rfl⟩ h
        )
  · skip
    refine ra_i2l E dL_queueLength_7 rfl ?_
    refine ra_last E (Nat.le_of_ble_eq_true rfl) rfl dL_queueLength_8 ?_
    replace h := h _ rfl
    refine ra_goto (tgt := 15) E dL_queueLength_9 (by decide) ?_
    refine ra_iconst E dL_queueLength_15 ki_0 ?_
    exact rx_iret E hr dL_queueLength_16 ⟨Nat.le_of_ble_eq_true rfl, Nat.le_of_ble_eq_true rfl⟩ h
def f_L_queuedOrder (p1 : Int32) (p2 : Int32) (M : TM) (K : Int32 → TM → Prop) : Prop := f_X12_queuedOrder p1 p2 M (fun r2 M1 => ∀ M4, M4 = u2 M1 710 0 r2 → K (0 : Int32) M4) (fun E9 M3 => (E9 = "java/lang/IndexOutOfBoundsException" ∧ K (1 : Int32) M3))
set_option maxRecDepth 100000 in
set_option maxHeartbeats 4000000 in
theorem c_L_queuedOrder {ad : Nat → Nat} (p1 : Int32) (p2 : Int32) (M : TM) (K : Int32 → TM → Prop) (h : f_L_queuedOrder p1 p2 M K) : XW yL_queuedOrder cL_queuedOrder 5 (some .int) [(0, 10, 13, 18)] 9 1 ad [.ref (ad 0), .int p1, .int p2, .ref (ad 710)] M K := by
  refine XW_of RL rfl (by decide +kernel) (Nat.le_of_ble_eq_true rfl) (fun p l e s m below meth c D tc E hr hfl hTab => ?_)
  unfold f_L_queuedOrder at h
  refine ra_aload_n E dL_queuedOrder_0 rfl 3 rfl ?_
  refine ra_iconst E dL_queuedOrder_1 ki_0 ?_
  refine ra_aload_n E dL_queuedOrder_2 rfl 0 rfl ?_
  refine ra_iload_n E dL_queuedOrder_3 rfl 1 rfl ?_
  refine ra_iload_n E dL_queuedOrder_4 rfl 2 rfl ?_
  refine rx_callIVH (rest := [_, _]) E hfl (c_X12_queuedOrder _ _ _ _ _ h) (lq_X12 _) cv_X12_queuedOrder ml_L_59 (by decide) (lm (by decide)) (fun R => ⟨_, cel_0 tc ad R⟩) rfl rfl rfl (Nat.le_of_ble_eq_true rfl) ⟨Nat.le_of_ble_eq_true rfl, Nat.le_of_ble_eq_true rfl⟩ ⟨Nat.le_of_ble_eq_true rfl, Nat.le_of_ble_eq_true rfl⟩ dL_queuedOrder_5 (fun E9 M3 hX => ?_) (fun r2 M1 h => ?_)
  · obtain ⟨rfl, h⟩ := hX
    · exact rx_catch hTab E [] [] ⟨0, 10, 13, 18⟩ rfl (fun _ hz => absurd hz List.not_mem_nil) (by decide +kernel) (by decide) kl_18 (by decide +kernel) (fun q5 => by
        refine ra_astore (L' := [(4, _), (0, _), (1, _), (2, _), (3, _)]) E dL_queuedOrder_13 (by decide) rfl ?_
        refine ra_iconst E dL_queuedOrder_15 ki_1 ?_
        exact rx_iret E hr dL_queuedOrder_16 ⟨Nat.le_of_ble_eq_true rfl, Nat.le_of_ble_eq_true rfl⟩ h
        )
  · skip
    refine ra_i2l E dL_queuedOrder_8 rfl ?_
    refine ra_last E (Nat.le_of_ble_eq_true rfl) rfl dL_queuedOrder_9 ?_
    replace h := h _ rfl
    refine ra_goto (tgt := 17) E dL_queuedOrder_10 (by decide) ?_
    refine ra_iconst E dL_queuedOrder_17 ki_0 ?_
    exact rx_iret E hr dL_queuedOrder_18 ⟨Nat.le_of_ble_eq_true rfl, Nat.le_of_ble_eq_true rfl⟩ h
def f_L_readyCount (p1 : Int32) (M : TM) (K : Int32 → TM → Prop) : Prop := f_X12_readyCount p1 M (fun r2 M1 => ∀ M4, M4 = u2 M1 710 0 r2 → K (0 : Int32) M4) (fun E9 M3 => (E9 = "java/lang/IndexOutOfBoundsException" ∧ K (1 : Int32) M3))
set_option maxRecDepth 100000 in
set_option maxHeartbeats 4000000 in
theorem c_L_readyCount {ad : Nat → Nat} (p1 : Int32) (M : TM) (K : Int32 → TM → Prop) (h : f_L_readyCount p1 M K) : XW yL_readyCount cL_readyCount 4 (some .int) [(0, 9, 12, 18)] 9 2 ad [.ref (ad 0), .int p1, .ref (ad 710)] M K := by
  refine XW_of RL rfl (by decide +kernel) (Nat.le_of_ble_eq_true rfl) (fun p l e s m below meth c D tc E hr hfl hTab => ?_)
  unfold f_L_readyCount at h
  refine ra_aload_n E dL_readyCount_0 rfl 2 rfl ?_
  refine ra_iconst E dL_readyCount_1 ki_0 ?_
  refine ra_aload_n E dL_readyCount_2 rfl 0 rfl ?_
  refine ra_iload_n E dL_readyCount_3 rfl 1 rfl ?_
  refine rx_callIVH (rest := [_, _]) E hfl (c_X12_readyCount _ _ _ _ h) (lq_X12 _) cv_X12_readyCount ml_L_63 (by decide) (lm (by decide)) (fun R => ⟨_, cel_0 tc ad R⟩) rfl rfl rfl (Nat.le_of_ble_eq_true rfl) ⟨Nat.le_of_ble_eq_true rfl, Nat.le_of_ble_eq_true rfl⟩ ⟨Nat.le_of_ble_eq_true rfl, Nat.le_of_ble_eq_true rfl⟩ dL_readyCount_4 (fun E9 M3 hX => ?_) (fun r2 M1 h => ?_)
  · obtain ⟨rfl, h⟩ := hX
    · exact rx_catch hTab E [] [] ⟨0, 9, 12, 18⟩ rfl (fun _ hz => absurd hz List.not_mem_nil) (by decide +kernel) (by decide) kl_18 (by decide +kernel) (fun q5 => by
        refine ra_astore_n (L' := [(3, _), (0, _), (1, _), (2, _)]) E dL_readyCount_12 rfl (by decide) rfl ?_
        refine ra_iconst E dL_readyCount_13 ki_1 ?_
        exact rx_iret E hr dL_readyCount_14 ⟨Nat.le_of_ble_eq_true rfl, Nat.le_of_ble_eq_true rfl⟩ h
        )
  · skip
    refine ra_i2l E dL_readyCount_7 rfl ?_
    refine ra_last E (Nat.le_of_ble_eq_true rfl) rfl dL_readyCount_8 ?_
    replace h := h _ rfl
    refine ra_goto (tgt := 15) E dL_readyCount_9 (by decide) ?_
    refine ra_iconst E dL_readyCount_15 ki_0 ?_
    exact rx_iret E hr dL_readyCount_16 ⟨Nat.le_of_ble_eq_true rfl, Nat.le_of_ble_eq_true rfl⟩ h
def f_L_flourNeeded (p1 : Int32) (M : TM) (K : Int32 → TM → Prop) : Prop := f_X12_flourNeeded p1 M (fun r2 M1 => ∀ M4, M4 = u2 M1 710 0 r2 → K (0 : Int32) M4) (fun E9 M3 => (E9 = "java/lang/IndexOutOfBoundsException" ∧ K (1 : Int32) M3))
set_option maxRecDepth 100000 in
set_option maxHeartbeats 4000000 in
theorem c_L_flourNeeded {ad : Nat → Nat} (p1 : Int32) (M : TM) (K : Int32 → TM → Prop) (h : f_L_flourNeeded p1 M K) : XW yL_flourNeeded cL_flourNeeded 4 (some .int) [(0, 9, 12, 18)] 9 1 ad [.ref (ad 0), .int p1, .ref (ad 710)] M K := by
  refine XW_of RL rfl (by decide +kernel) (Nat.le_of_ble_eq_true rfl) (fun p l e s m below meth c D tc E hr hfl hTab => ?_)
  unfold f_L_flourNeeded at h
  refine ra_aload_n E dL_flourNeeded_0 rfl 2 rfl ?_
  refine ra_iconst E dL_flourNeeded_1 ki_0 ?_
  refine ra_aload_n E dL_flourNeeded_2 rfl 0 rfl ?_
  refine ra_iload_n E dL_flourNeeded_3 rfl 1 rfl ?_
  refine rx_callIVH (rest := [_, _]) E hfl (c_X12_flourNeeded _ _ _ _ h) (lq_X12 _) cv_X12_flourNeeded ml_L_66 (by decide) (lm (by decide)) (fun R => ⟨_, cel_0 tc ad R⟩) rfl rfl rfl (Nat.le_of_ble_eq_true rfl) ⟨Nat.le_of_ble_eq_true rfl, Nat.le_of_ble_eq_true rfl⟩ ⟨Nat.le_of_ble_eq_true rfl, Nat.le_of_ble_eq_true rfl⟩ dL_flourNeeded_4 (fun E9 M3 hX => ?_) (fun r2 M1 h => ?_)
  · obtain ⟨rfl, h⟩ := hX
    · exact rx_catch hTab E [] [] ⟨0, 9, 12, 18⟩ rfl (fun _ hz => absurd hz List.not_mem_nil) (by decide +kernel) (by decide) kl_18 (by decide +kernel) (fun q5 => by
        refine ra_astore_n (L' := [(3, _), (0, _), (1, _), (2, _)]) E dL_flourNeeded_12 rfl (by decide) rfl ?_
        refine ra_iconst E dL_flourNeeded_13 ki_1 ?_
        exact rx_iret E hr dL_flourNeeded_14 ⟨Nat.le_of_ble_eq_true rfl, Nat.le_of_ble_eq_true rfl⟩ h
        )
  · skip
    refine ra_i2l E dL_flourNeeded_7 rfl ?_
    refine ra_last E (Nat.le_of_ble_eq_true rfl) rfl dL_flourNeeded_8 ?_
    replace h := h _ rfl
    refine ra_goto (tgt := 15) E dL_flourNeeded_9 (by decide) ?_
    refine ra_iconst E dL_flourNeeded_15 ki_0 ?_
    exact rx_iret E hr dL_flourNeeded_16 ⟨Nat.le_of_ble_eq_true rfl, Nat.le_of_ble_eq_true rfl⟩ h
def f_L_orderPlace (p1 : Int32) (M : TM) (K : Int32 → TM → Prop) : Prop := f_X12_orderPlace p1 M (fun r2 M1 => ∀ M4, M4 = u2 M1 710 0 r2 → K (0 : Int32) M4) (fun E9 M3 => (E9 = "java/lang/IndexOutOfBoundsException" ∧ K (1 : Int32) M3))
set_option maxRecDepth 100000 in
set_option maxHeartbeats 4000000 in
theorem c_L_orderPlace {ad : Nat → Nat} (p1 : Int32) (M : TM) (K : Int32 → TM → Prop) (h : f_L_orderPlace p1 M K) : XW yL_orderPlace cL_orderPlace 4 (some .int) [(0, 9, 12, 18)] 9 1 ad [.ref (ad 0), .int p1, .ref (ad 710)] M K := by
  refine XW_of RL rfl (by decide +kernel) (Nat.le_of_ble_eq_true rfl) (fun p l e s m below meth c D tc E hr hfl hTab => ?_)
  unfold f_L_orderPlace at h
  refine ra_aload_n E dL_orderPlace_0 rfl 2 rfl ?_
  refine ra_iconst E dL_orderPlace_1 ki_0 ?_
  refine ra_aload_n E dL_orderPlace_2 rfl 0 rfl ?_
  refine ra_iload_n E dL_orderPlace_3 rfl 1 rfl ?_
  refine rx_callIVH (rest := [_, _]) E hfl (c_X12_orderPlace _ _ _ _ h) (lq_X12 _) cv_X12_orderPlace ml_L_69 (by decide) (lm (by decide)) (fun R => ⟨_, cel_0 tc ad R⟩) rfl rfl rfl (Nat.le_of_ble_eq_true rfl) ⟨Nat.le_of_ble_eq_true rfl, Nat.le_of_ble_eq_true rfl⟩ ⟨Nat.le_of_ble_eq_true rfl, Nat.le_of_ble_eq_true rfl⟩ dL_orderPlace_4 (fun E9 M3 hX => ?_) (fun r2 M1 h => ?_)
  · obtain ⟨rfl, h⟩ := hX
    · exact rx_catch hTab E [] [] ⟨0, 9, 12, 18⟩ rfl (fun _ hz => absurd hz List.not_mem_nil) (by decide +kernel) (by decide) kl_18 (by decide +kernel) (fun q5 => by
        refine ra_astore_n (L' := [(3, _), (0, _), (1, _), (2, _)]) E dL_orderPlace_12 rfl (by decide) rfl ?_
        refine ra_iconst E dL_orderPlace_13 ki_1 ?_
        exact rx_iret E hr dL_orderPlace_14 ⟨Nat.le_of_ble_eq_true rfl, Nat.le_of_ble_eq_true rfl⟩ h
        )
  · skip
    refine ra_i2l E dL_orderPlace_7 rfl ?_
    refine ra_last E (Nat.le_of_ble_eq_true rfl) rfl dL_orderPlace_8 ?_
    replace h := h _ rfl
    refine ra_goto (tgt := 15) E dL_orderPlace_9 (by decide) ?_
    refine ra_iconst E dL_orderPlace_15 ki_0 ?_
    exact rx_iret E hr dL_orderPlace_16 ⟨Nat.le_of_ble_eq_true rfl, Nat.le_of_ble_eq_true rfl⟩ h
def f_L_bowls (p1 : Int32) (M : TM) (K : Int32 → TM → Prop) : Prop := f_X12_bowls p1 M (fun r2 M1 => ∀ M4, M4 = u2 M1 710 0 r2 → K (0 : Int32) M4) (fun E9 M3 => (E9 = "java/lang/IndexOutOfBoundsException" ∧ K (1 : Int32) M3))
set_option maxRecDepth 100000 in
set_option maxHeartbeats 4000000 in
theorem c_L_bowls {ad : Nat → Nat} (p1 : Int32) (M : TM) (K : Int32 → TM → Prop) (h : f_L_bowls p1 M K) : XW yL_bowls cL_bowls 4 (some .int) [(0, 9, 12, 18)] 9 1 ad [.ref (ad 0), .int p1, .ref (ad 710)] M K := by
  refine XW_of RL rfl (by decide +kernel) (Nat.le_of_ble_eq_true rfl) (fun p l e s m below meth c D tc E hr hfl hTab => ?_)
  unfold f_L_bowls at h
  refine ra_aload_n E dL_bowls_0 rfl 2 rfl ?_
  refine ra_iconst E dL_bowls_1 ki_0 ?_
  refine ra_aload_n E dL_bowls_2 rfl 0 rfl ?_
  refine ra_iload_n E dL_bowls_3 rfl 1 rfl ?_
  refine rx_callIVH (rest := [_, _]) E hfl (c_X12_bowls _ _ _ _ h) (lq_X12 _) cv_X12_bowls ml_L_72 (by decide) (lm (by decide)) (fun R => ⟨_, cel_0 tc ad R⟩) rfl rfl rfl (Nat.le_of_ble_eq_true rfl) ⟨Nat.le_of_ble_eq_true rfl, Nat.le_of_ble_eq_true rfl⟩ ⟨Nat.le_of_ble_eq_true rfl, Nat.le_of_ble_eq_true rfl⟩ dL_bowls_4 (fun E9 M3 hX => ?_) (fun r2 M1 h => ?_)
  · obtain ⟨rfl, h⟩ := hX
    · exact rx_catch hTab E [] [] ⟨0, 9, 12, 18⟩ rfl (fun _ hz => absurd hz List.not_mem_nil) (by decide +kernel) (by decide) kl_18 (by decide +kernel) (fun q5 => by
        refine ra_astore_n (L' := [(3, _), (0, _), (1, _), (2, _)]) E dL_bowls_12 rfl (by decide) rfl ?_
        refine ra_iconst E dL_bowls_13 ki_1 ?_
        exact rx_iret E hr dL_bowls_14 ⟨Nat.le_of_ble_eq_true rfl, Nat.le_of_ble_eq_true rfl⟩ h
        )
  · skip
    refine ra_i2l E dL_bowls_7 rfl ?_
    refine ra_last E (Nat.le_of_ble_eq_true rfl) rfl dL_bowls_8 ?_
    replace h := h _ rfl
    refine ra_goto (tgt := 15) E dL_bowls_9 (by decide) ?_
    refine ra_iconst E dL_bowls_15 ki_0 ?_
    exact rx_iret E hr dL_bowls_16 ⟨Nat.le_of_ble_eq_true rfl, Nat.le_of_ble_eq_true rfl⟩ h
def f_L_pullsLeft (p1 : Int32) (M : TM) (K : Int32 → TM → Prop) : Prop := f_X12_pullsLeft p1 M (fun r2 M1 => ∀ M4, M4 = u2 M1 710 0 r2 → K (0 : Int32) M4) (fun E9 M3 => (E9 = "java/lang/IndexOutOfBoundsException" ∧ K (1 : Int32) M3))
set_option maxRecDepth 100000 in
set_option maxHeartbeats 4000000 in
theorem c_L_pullsLeft {ad : Nat → Nat} (p1 : Int32) (M : TM) (K : Int32 → TM → Prop) (h : f_L_pullsLeft p1 M K) : XW yL_pullsLeft cL_pullsLeft 4 (some .int) [(0, 9, 12, 18)] 9 1 ad [.ref (ad 0), .int p1, .ref (ad 710)] M K := by
  refine XW_of RL rfl (by decide +kernel) (Nat.le_of_ble_eq_true rfl) (fun p l e s m below meth c D tc E hr hfl hTab => ?_)
  unfold f_L_pullsLeft at h
  refine ra_aload_n E dL_pullsLeft_0 rfl 2 rfl ?_
  refine ra_iconst E dL_pullsLeft_1 ki_0 ?_
  refine ra_aload_n E dL_pullsLeft_2 rfl 0 rfl ?_
  refine ra_iload_n E dL_pullsLeft_3 rfl 1 rfl ?_
  refine rx_callIVH (rest := [_, _]) E hfl (c_X12_pullsLeft _ _ _ _ h) (lq_X12 _) cv_X12_pullsLeft ml_L_75 (by decide) (lm (by decide)) (fun R => ⟨_, cel_0 tc ad R⟩) rfl rfl rfl (Nat.le_of_ble_eq_true rfl) ⟨Nat.le_of_ble_eq_true rfl, Nat.le_of_ble_eq_true rfl⟩ ⟨Nat.le_of_ble_eq_true rfl, Nat.le_of_ble_eq_true rfl⟩ dL_pullsLeft_4 (fun E9 M3 hX => ?_) (fun r2 M1 h => ?_)
  · obtain ⟨rfl, h⟩ := hX
    · exact rx_catch hTab E [] [] ⟨0, 9, 12, 18⟩ rfl (fun _ hz => absurd hz List.not_mem_nil) (by decide +kernel) (by decide) kl_18 (by decide +kernel) (fun q5 => by
        refine ra_astore_n (L' := [(3, _), (0, _), (1, _), (2, _)]) E dL_pullsLeft_12 rfl (by decide) rfl ?_
        refine ra_iconst E dL_pullsLeft_13 ki_1 ?_
        exact rx_iret E hr dL_pullsLeft_14 ⟨Nat.le_of_ble_eq_true rfl, Nat.le_of_ble_eq_true rfl⟩ h
        )
  · skip
    refine ra_i2l E dL_pullsLeft_7 rfl ?_
    refine ra_last E (Nat.le_of_ble_eq_true rfl) rfl dL_pullsLeft_8 ?_
    replace h := h _ rfl
    refine ra_goto (tgt := 15) E dL_pullsLeft_9 (by decide) ?_
    refine ra_iconst E dL_pullsLeft_15 ki_0 ?_
    exact rx_iret E hr dL_pullsLeft_16 ⟨Nat.le_of_ble_eq_true rfl, Nat.le_of_ble_eq_true rfl⟩ h
def f_L_deadline (p1 : Int32) (M : TM) (K : Int32 → TM → Prop) : Prop := f_X12_deadline p1 M (fun r2 M1 => ∀ M4, M4 = u2 M1 710 0 r2 → K (0 : Int32) M4) (fun E9 M3 => (E9 = "java/lang/IndexOutOfBoundsException" ∧ K (1 : Int32) M3))
set_option maxRecDepth 100000 in
set_option maxHeartbeats 4000000 in
theorem c_L_deadline {ad : Nat → Nat} (p1 : Int32) (M : TM) (K : Int32 → TM → Prop) (h : f_L_deadline p1 M K) : XW yL_deadline cL_deadline 4 (some .int) [(0, 9, 12, 18)] 9 1 ad [.ref (ad 0), .int p1, .ref (ad 710)] M K := by
  refine XW_of RL rfl (by decide +kernel) (Nat.le_of_ble_eq_true rfl) (fun p l e s m below meth c D tc E hr hfl hTab => ?_)
  unfold f_L_deadline at h
  refine ra_aload_n E dL_deadline_0 rfl 2 rfl ?_
  refine ra_iconst E dL_deadline_1 ki_0 ?_
  refine ra_aload_n E dL_deadline_2 rfl 0 rfl ?_
  refine ra_iload_n E dL_deadline_3 rfl 1 rfl ?_
  refine rx_callIVH (rest := [_, _]) E hfl (c_X12_deadline _ _ _ _ h) (lq_X12 _) cv_X12_deadline ml_L_78 (by decide) (lm (by decide)) (fun R => ⟨_, cel_0 tc ad R⟩) rfl rfl rfl (Nat.le_of_ble_eq_true rfl) ⟨Nat.le_of_ble_eq_true rfl, Nat.le_of_ble_eq_true rfl⟩ ⟨Nat.le_of_ble_eq_true rfl, Nat.le_of_ble_eq_true rfl⟩ dL_deadline_4 (fun E9 M3 hX => ?_) (fun r2 M1 h => ?_)
  · obtain ⟨rfl, h⟩ := hX
    · exact rx_catch hTab E [] [] ⟨0, 9, 12, 18⟩ rfl (fun _ hz => absurd hz List.not_mem_nil) (by decide +kernel) (by decide) kl_18 (by decide +kernel) (fun q5 => by
        refine ra_astore_n (L' := [(3, _), (0, _), (1, _), (2, _)]) E dL_deadline_12 rfl (by decide) rfl ?_
        refine ra_iconst E dL_deadline_13 ki_1 ?_
        exact rx_iret E hr dL_deadline_14 ⟨Nat.le_of_ble_eq_true rfl, Nat.le_of_ble_eq_true rfl⟩ h
        )
  · skip
    refine ra_i2l E dL_deadline_7 rfl ?_
    refine ra_last E (Nat.le_of_ble_eq_true rfl) rfl dL_deadline_8 ?_
    replace h := h _ rfl
    refine ra_goto (tgt := 15) E dL_deadline_9 (by decide) ?_
    refine ra_iconst E dL_deadline_15 ki_0 ?_
    exact rx_iret E hr dL_deadline_16 ⟨Nat.le_of_ble_eq_true rfl, Nat.le_of_ble_eq_true rfl⟩ h
def f_L_price (p1 : Int32) (M : TM) (K : Int32 → TM → Prop) : Prop := f_X12_price p1 M (fun r2 M1 => ∀ M4, M4 = u2 M1 710 0 r2 → K (0 : Int32) M4) (fun E9 M3 => (E9 = "java/lang/IndexOutOfBoundsException" ∧ K (1 : Int32) M3))
set_option maxRecDepth 100000 in
set_option maxHeartbeats 4000000 in
theorem c_L_price {ad : Nat → Nat} (p1 : Int32) (M : TM) (K : Int32 → TM → Prop) (h : f_L_price p1 M K) : XW yL_price cL_price 4 (some .int) [(0, 9, 12, 18)] 9 1 ad [.ref (ad 0), .int p1, .ref (ad 710)] M K := by
  refine XW_of RL rfl (by decide +kernel) (Nat.le_of_ble_eq_true rfl) (fun p l e s m below meth c D tc E hr hfl hTab => ?_)
  unfold f_L_price at h
  refine ra_aload_n E dL_price_0 rfl 2 rfl ?_
  refine ra_iconst E dL_price_1 ki_0 ?_
  refine ra_aload_n E dL_price_2 rfl 0 rfl ?_
  refine ra_iload_n E dL_price_3 rfl 1 rfl ?_
  refine rx_callIVH (rest := [_, _]) E hfl (c_X12_price _ _ _ _ h) (lq_X12 _) cv_X12_price ml_L_81 (by decide) (lm (by decide)) (fun R => ⟨_, cel_0 tc ad R⟩) rfl rfl rfl (Nat.le_of_ble_eq_true rfl) ⟨Nat.le_of_ble_eq_true rfl, Nat.le_of_ble_eq_true rfl⟩ ⟨Nat.le_of_ble_eq_true rfl, Nat.le_of_ble_eq_true rfl⟩ dL_price_4 (fun E9 M3 hX => ?_) (fun r2 M1 h => ?_)
  · obtain ⟨rfl, h⟩ := hX
    · exact rx_catch hTab E [] [] ⟨0, 9, 12, 18⟩ rfl (fun _ hz => absurd hz List.not_mem_nil) (by decide +kernel) (by decide) kl_18 (by decide +kernel) (fun q5 => by
        refine ra_astore_n (L' := [(3, _), (0, _), (1, _), (2, _)]) E dL_price_12 rfl (by decide) rfl ?_
        refine ra_iconst E dL_price_13 ki_1 ?_
        exact rx_iret E hr dL_price_14 ⟨Nat.le_of_ble_eq_true rfl, Nat.le_of_ble_eq_true rfl⟩ h
        )
  · skip
    refine ra_i2l E dL_price_7 rfl ?_
    refine ra_last E (Nat.le_of_ble_eq_true rfl) rfl dL_price_8 ?_
    replace h := h _ rfl
    refine ra_goto (tgt := 15) E dL_price_9 (by decide) ?_
    refine ra_iconst E dL_price_15 ki_0 ?_
    exact rx_iret E hr dL_price_16 ⟨Nat.le_of_ble_eq_true rfl, Nat.le_of_ble_eq_true rfl⟩ h
def f_L_bargeOf (p1 : Int32) (M : TM) (K : Int32 → TM → Prop) : Prop := f_X12_bargeOf p1 M (fun r2 M1 => ∀ M4, M4 = u2 M1 710 0 r2 → K (0 : Int32) M4) (fun E9 M3 => (E9 = "java/lang/IndexOutOfBoundsException" ∧ K (1 : Int32) M3))
set_option maxRecDepth 100000 in
set_option maxHeartbeats 4000000 in
theorem c_L_bargeOf {ad : Nat → Nat} (p1 : Int32) (M : TM) (K : Int32 → TM → Prop) (h : f_L_bargeOf p1 M K) : XW yL_bargeOf cL_bargeOf 4 (some .int) [(0, 9, 12, 18)] 9 1 ad [.ref (ad 0), .int p1, .ref (ad 710)] M K := by
  refine XW_of RL rfl (by decide +kernel) (Nat.le_of_ble_eq_true rfl) (fun p l e s m below meth c D tc E hr hfl hTab => ?_)
  unfold f_L_bargeOf at h
  refine ra_aload_n E dL_bargeOf_0 rfl 2 rfl ?_
  refine ra_iconst E dL_bargeOf_1 ki_0 ?_
  refine ra_aload_n E dL_bargeOf_2 rfl 0 rfl ?_
  refine ra_iload_n E dL_bargeOf_3 rfl 1 rfl ?_
  refine rx_callIVH (rest := [_, _]) E hfl (c_X12_bargeOf _ _ _ _ h) (lq_X12 _) cv_X12_bargeOf ml_L_84 (by decide) (lm (by decide)) (fun R => ⟨_, cel_0 tc ad R⟩) rfl rfl rfl (Nat.le_of_ble_eq_true rfl) ⟨Nat.le_of_ble_eq_true rfl, Nat.le_of_ble_eq_true rfl⟩ ⟨Nat.le_of_ble_eq_true rfl, Nat.le_of_ble_eq_true rfl⟩ dL_bargeOf_4 (fun E9 M3 hX => ?_) (fun r2 M1 h => ?_)
  · obtain ⟨rfl, h⟩ := hX
    · exact rx_catch hTab E [] [] ⟨0, 9, 12, 18⟩ rfl (fun _ hz => absurd hz List.not_mem_nil) (by decide +kernel) (by decide) kl_18 (by decide +kernel) (fun q5 => by
        refine ra_astore_n (L' := [(3, _), (0, _), (1, _), (2, _)]) E dL_bargeOf_12 rfl (by decide) rfl ?_
        refine ra_iconst E dL_bargeOf_13 ki_1 ?_
        exact rx_iret E hr dL_bargeOf_14 ⟨Nat.le_of_ble_eq_true rfl, Nat.le_of_ble_eq_true rfl⟩ h
        )
  · skip
    refine ra_i2l E dL_bargeOf_7 rfl ?_
    refine ra_last E (Nat.le_of_ble_eq_true rfl) rfl dL_bargeOf_8 ?_
    replace h := h _ rfl
    refine ra_goto (tgt := 15) E dL_bargeOf_9 (by decide) ?_
    refine ra_iconst E dL_bargeOf_15 ki_0 ?_
    exact rx_iret E hr dL_bargeOf_16 ⟨Nat.le_of_ble_eq_true rfl, Nat.le_of_ble_eq_true rfl⟩ h
def f_L_isOpen (p1 : Int32) (M : TM) (K : Int32 → TM → Prop) : Prop := f_X12_isOpen p1 M (fun r2 M1 => ((r2 = 0 → ∀ M5, M5 = u2 M1 710 0 (0 : Int32) → K (0 : Int32) M5) ∧ (¬ r2 = 0 → ∀ M6, M6 = u2 M1 710 0 (1 : Int32) → K (0 : Int32) M6))) (fun E9 M3 => (E9 = "java/lang/IndexOutOfBoundsException" ∧ K (1 : Int32) M3))
set_option maxRecDepth 100000 in
set_option maxHeartbeats 4000000 in
theorem c_L_isOpen {ad : Nat → Nat} (p1 : Int32) (M : TM) (K : Int32 → TM → Prop) (h : f_L_isOpen p1 M K) : XW yL_isOpen cL_isOpen 4 (some .int) [(0, 16, 19, 18)] 9 1 ad [.ref (ad 0), .int p1, .ref (ad 710)] M K := by
  refine XW_of RL rfl (by decide +kernel) (Nat.le_of_ble_eq_true rfl) (fun p l e s m below meth c D tc E hr hfl hTab => ?_)
  unfold f_L_isOpen at h
  refine ra_aload_n E dL_isOpen_0 rfl 2 rfl ?_
  refine ra_iconst E dL_isOpen_1 ki_0 ?_
  refine ra_aload_n E dL_isOpen_2 rfl 0 rfl ?_
  refine ra_iload_n E dL_isOpen_3 rfl 1 rfl ?_
  refine rx_callIVH (rest := [_, _]) E hfl (c_X12_isOpen _ _ _ _ h) (lq_X12 _) cv_X12_isOpen ml_L_87 (by decide) (lm (by decide)) (fun R => ⟨_, cel_0 tc ad R⟩) rfl rfl rfl (Nat.le_of_ble_eq_true rfl) ⟨Nat.le_of_ble_eq_true rfl, Nat.le_of_ble_eq_true rfl⟩ ⟨Nat.le_of_ble_eq_true rfl, Nat.le_of_ble_eq_true rfl⟩ dL_isOpen_4 (fun E9 M3 hX => ?_) (fun r2 M1 h => ?_)
  · obtain ⟨rfl, h⟩ := hX
    · exact rx_catch hTab E [] [] ⟨0, 16, 19, 18⟩ rfl (fun _ hz => absurd hz List.not_mem_nil) (by decide +kernel) (by decide) kl_18 (by decide +kernel) (fun q7 => by
        refine ra_astore_n (L' := [(3, _), (0, _), (1, _), (2, _)]) E dL_isOpen_19 rfl (by decide) rfl ?_
        refine ra_iconst E dL_isOpen_20 ki_1 ?_
        exact rx_iret E hr dL_isOpen_21 ⟨Nat.le_of_ble_eq_true rfl, Nat.le_of_ble_eq_true rfl⟩ h
        )
  · obtain ⟨b9, h⟩ := h
    refine ra_if_eq (tgt := 14) E dL_isOpen_7 (by decide) (fun q4 => ?_) (fun q4 => ?_)
    · replace h := h.1 q4
      refine ra_lconst (v := (0 : Int32).toInt64) E dL_isOpen_14 (by decide +kernel) ?_
      refine ra_last E (Nat.le_of_ble_eq_true rfl) rfl dL_isOpen_15 ?_
      replace h := h _ rfl
      refine ra_goto (tgt := 22) E dL_isOpen_16 (by decide) ?_
      refine ra_iconst E dL_isOpen_22 ki_0 ?_
      exact rx_iret E hr dL_isOpen_23 ⟨Nat.le_of_ble_eq_true rfl, Nat.le_of_ble_eq_true rfl⟩ h
    · replace h := h.2 q4
      refine ra_lconst (v := (1 : Int32).toInt64) E dL_isOpen_10 (by decide +kernel) ?_
      refine ra_goto (tgt := 15) E dL_isOpen_11 (by decide) ?_
      refine ra_last E (Nat.le_of_ble_eq_true rfl) rfl dL_isOpen_15 ?_
      replace h := h _ rfl
      refine ra_goto (tgt := 22) E dL_isOpen_16 (by decide) ?_
      refine ra_iconst E dL_isOpen_22 ki_0 ?_
      exact rx_iret E hr dL_isOpen_23 ⟨Nat.le_of_ble_eq_true rfl, Nat.le_of_ble_eq_true rfl⟩ h
def f_L_isReady (p1 : Int32) (M : TM) (K : Int32 → TM → Prop) : Prop := f_X12_isReady p1 M (fun r2 M1 => ((r2 = 0 → ∀ M5, M5 = u2 M1 710 0 (0 : Int32) → K (0 : Int32) M5) ∧ (¬ r2 = 0 → ∀ M6, M6 = u2 M1 710 0 (1 : Int32) → K (0 : Int32) M6))) (fun E9 M3 => (E9 = "java/lang/IndexOutOfBoundsException" ∧ K (1 : Int32) M3))
set_option maxRecDepth 100000 in
set_option maxHeartbeats 4000000 in
theorem c_L_isReady {ad : Nat → Nat} (p1 : Int32) (M : TM) (K : Int32 → TM → Prop) (h : f_L_isReady p1 M K) : XW yL_isReady cL_isReady 4 (some .int) [(0, 16, 19, 18)] 9 1 ad [.ref (ad 0), .int p1, .ref (ad 710)] M K := by
  refine XW_of RL rfl (by decide +kernel) (Nat.le_of_ble_eq_true rfl) (fun p l e s m below meth c D tc E hr hfl hTab => ?_)
  unfold f_L_isReady at h
  refine ra_aload_n E dL_isReady_0 rfl 2 rfl ?_
  refine ra_iconst E dL_isReady_1 ki_0 ?_
  refine ra_aload_n E dL_isReady_2 rfl 0 rfl ?_
  refine ra_iload_n E dL_isReady_3 rfl 1 rfl ?_
  refine rx_callIVH (rest := [_, _]) E hfl (c_X12_isReady _ _ _ _ h) (lq_X12 _) cv_X12_isReady ml_L_91 (by decide) (lm (by decide)) (fun R => ⟨_, cel_0 tc ad R⟩) rfl rfl rfl (Nat.le_of_ble_eq_true rfl) ⟨Nat.le_of_ble_eq_true rfl, Nat.le_of_ble_eq_true rfl⟩ ⟨Nat.le_of_ble_eq_true rfl, Nat.le_of_ble_eq_true rfl⟩ dL_isReady_4 (fun E9 M3 hX => ?_) (fun r2 M1 h => ?_)
  · obtain ⟨rfl, h⟩ := hX
    · exact rx_catch hTab E [] [] ⟨0, 16, 19, 18⟩ rfl (fun _ hz => absurd hz List.not_mem_nil) (by decide +kernel) (by decide) kl_18 (by decide +kernel) (fun q7 => by
        refine ra_astore_n (L' := [(3, _), (0, _), (1, _), (2, _)]) E dL_isReady_19 rfl (by decide) rfl ?_
        refine ra_iconst E dL_isReady_20 ki_1 ?_
        exact rx_iret E hr dL_isReady_21 ⟨Nat.le_of_ble_eq_true rfl, Nat.le_of_ble_eq_true rfl⟩ h
        )
  · obtain ⟨b9, h⟩ := h
    refine ra_if_eq (tgt := 14) E dL_isReady_7 (by decide) (fun q4 => ?_) (fun q4 => ?_)
    · replace h := h.1 q4
      refine ra_lconst (v := (0 : Int32).toInt64) E dL_isReady_14 (by decide +kernel) ?_
      refine ra_last E (Nat.le_of_ble_eq_true rfl) rfl dL_isReady_15 ?_
      replace h := h _ rfl
      refine ra_goto (tgt := 22) E dL_isReady_16 (by decide) ?_
      refine ra_iconst E dL_isReady_22 ki_0 ?_
      exact rx_iret E hr dL_isReady_23 ⟨Nat.le_of_ble_eq_true rfl, Nat.le_of_ble_eq_true rfl⟩ h
    · replace h := h.2 q4
      refine ra_lconst (v := (1 : Int32).toInt64) E dL_isReady_10 (by decide +kernel) ?_
      refine ra_goto (tgt := 15) E dL_isReady_11 (by decide) ?_
      refine ra_last E (Nat.le_of_ble_eq_true rfl) rfl dL_isReady_15 ?_
      replace h := h _ rfl
      refine ra_goto (tgt := 22) E dL_isReady_16 (by decide) ?_
      refine ra_iconst E dL_isReady_22 ki_0 ?_
      exact rx_iret E hr dL_isReady_23 ⟨Nat.le_of_ble_eq_true rfl, Nat.le_of_ble_eq_true rfl⟩ h
def f_L_isEaten (p1 : Int32) (M : TM) (K : Int32 → TM → Prop) : Prop := f_X12_isEaten p1 M (fun r2 M1 => ((r2 = 0 → ∀ M5, M5 = u2 M1 710 0 (0 : Int32) → K (0 : Int32) M5) ∧ (¬ r2 = 0 → ∀ M6, M6 = u2 M1 710 0 (1 : Int32) → K (0 : Int32) M6))) (fun E9 M3 => (E9 = "java/lang/IndexOutOfBoundsException" ∧ K (1 : Int32) M3))
set_option maxRecDepth 100000 in
set_option maxHeartbeats 4000000 in
theorem c_L_isEaten {ad : Nat → Nat} (p1 : Int32) (M : TM) (K : Int32 → TM → Prop) (h : f_L_isEaten p1 M K) : XW yL_isEaten cL_isEaten 4 (some .int) [(0, 16, 19, 18)] 9 1 ad [.ref (ad 0), .int p1, .ref (ad 710)] M K := by
  refine XW_of RL rfl (by decide +kernel) (Nat.le_of_ble_eq_true rfl) (fun p l e s m below meth c D tc E hr hfl hTab => ?_)
  unfold f_L_isEaten at h
  refine ra_aload_n E dL_isEaten_0 rfl 2 rfl ?_
  refine ra_iconst E dL_isEaten_1 ki_0 ?_
  refine ra_aload_n E dL_isEaten_2 rfl 0 rfl ?_
  refine ra_iload_n E dL_isEaten_3 rfl 1 rfl ?_
  refine rx_callIVH (rest := [_, _]) E hfl (c_X12_isEaten _ _ _ _ h) (lq_X12 _) cv_X12_isEaten ml_L_94 (by decide) (lm (by decide)) (fun R => ⟨_, cel_0 tc ad R⟩) rfl rfl rfl (Nat.le_of_ble_eq_true rfl) ⟨Nat.le_of_ble_eq_true rfl, Nat.le_of_ble_eq_true rfl⟩ ⟨Nat.le_of_ble_eq_true rfl, Nat.le_of_ble_eq_true rfl⟩ dL_isEaten_4 (fun E9 M3 hX => ?_) (fun r2 M1 h => ?_)
  · obtain ⟨rfl, h⟩ := hX
    · exact rx_catch hTab E [] [] ⟨0, 16, 19, 18⟩ rfl (fun _ hz => absurd hz List.not_mem_nil) (by decide +kernel) (by decide) kl_18 (by decide +kernel) (fun q7 => by
        refine ra_astore_n (L' := [(3, _), (0, _), (1, _), (2, _)]) E dL_isEaten_19 rfl (by decide) rfl ?_
        refine ra_iconst E dL_isEaten_20 ki_1 ?_
        exact rx_iret E hr dL_isEaten_21 ⟨Nat.le_of_ble_eq_true rfl, Nat.le_of_ble_eq_true rfl⟩ h
        )
  · obtain ⟨b9, h⟩ := h
    refine ra_if_eq (tgt := 14) E dL_isEaten_7 (by decide) (fun q4 => ?_) (fun q4 => ?_)
    · replace h := h.1 q4
      refine ra_lconst (v := (0 : Int32).toInt64) E dL_isEaten_14 (by decide +kernel) ?_
      refine ra_last E (Nat.le_of_ble_eq_true rfl) rfl dL_isEaten_15 ?_
      replace h := h _ rfl
      refine ra_goto (tgt := 22) E dL_isEaten_16 (by decide) ?_
      refine ra_iconst E dL_isEaten_22 ki_0 ?_
      exact rx_iret E hr dL_isEaten_23 ⟨Nat.le_of_ble_eq_true rfl, Nat.le_of_ble_eq_true rfl⟩ h
    · replace h := h.2 q4
      refine ra_lconst (v := (1 : Int32).toInt64) E dL_isEaten_10 (by decide +kernel) ?_
      refine ra_goto (tgt := 15) E dL_isEaten_11 (by decide) ?_
      refine ra_last E (Nat.le_of_ble_eq_true rfl) rfl dL_isEaten_15 ?_
      replace h := h _ rfl
      refine ra_goto (tgt := 22) E dL_isEaten_16 (by decide) ?_
      refine ra_iconst E dL_isEaten_22 ki_0 ?_
      exact rx_iret E hr dL_isEaten_23 ⟨Nat.le_of_ble_eq_true rfl, Nat.le_of_ble_eq_true rfl⟩ h
def f_L_nearestBarge (p1 : Int32) (M : TM) (K : Int32 → TM → Prop) : Prop := f_X12_nearestBarge p1 M (fun r2 M1 => ∀ M4, M4 = u2 M1 710 0 r2 → K (0 : Int32) M4) (fun E9 M3 => (E9 = "java/lang/IndexOutOfBoundsException" ∧ K (1 : Int32) M3))
set_option maxRecDepth 100000 in
set_option maxHeartbeats 4000000 in
theorem c_L_nearestBarge {ad : Nat → Nat} (p1 : Int32) (M : TM) (K : Int32 → TM → Prop) (h : f_L_nearestBarge p1 M K) : XW yL_nearestBarge cL_nearestBarge 4 (some .int) [(0, 9, 12, 18)] 9 1 ad [.ref (ad 0), .int p1, .ref (ad 710)] M K := by
  refine XW_of RL rfl (by decide +kernel) (Nat.le_of_ble_eq_true rfl) (fun p l e s m below meth c D tc E hr hfl hTab => ?_)
  unfold f_L_nearestBarge at h
  refine ra_aload_n E dL_nearestBarge_0 rfl 2 rfl ?_
  refine ra_iconst E dL_nearestBarge_1 ki_0 ?_
  refine ra_aload_n E dL_nearestBarge_2 rfl 0 rfl ?_
  refine ra_iload_n E dL_nearestBarge_3 rfl 1 rfl ?_
  refine rx_callIVH (rest := [_, _]) E hfl (c_X12_nearestBarge _ _ _ _ h) (lq_X12 _) cv_X12_nearestBarge ml_L_112 (by decide) (lm (by decide)) (fun R => ⟨_, cel_0 tc ad R⟩) rfl rfl rfl (Nat.le_of_ble_eq_true rfl) ⟨Nat.le_of_ble_eq_true rfl, Nat.le_of_ble_eq_true rfl⟩ ⟨Nat.le_of_ble_eq_true rfl, Nat.le_of_ble_eq_true rfl⟩ dL_nearestBarge_4 (fun E9 M3 hX => ?_) (fun r2 M1 h => ?_)
  · obtain ⟨rfl, h⟩ := hX
    · exact rx_catch hTab E [] [] ⟨0, 9, 12, 18⟩ rfl (fun _ hz => absurd hz List.not_mem_nil) (by decide +kernel) (by decide) kl_18 (by decide +kernel) (fun q5 => by
        refine ra_astore_n (L' := [(3, _), (0, _), (1, _), (2, _)]) E dL_nearestBarge_12 rfl (by decide) rfl ?_
        refine ra_iconst E dL_nearestBarge_13 ki_1 ?_
        exact rx_iret E hr dL_nearestBarge_14 ⟨Nat.le_of_ble_eq_true rfl, Nat.le_of_ble_eq_true rfl⟩ h
        )
  · skip
    refine ra_i2l E dL_nearestBarge_7 rfl ?_
    refine ra_last E (Nat.le_of_ble_eq_true rfl) rfl dL_nearestBarge_8 ?_
    replace h := h _ rfl
    refine ra_goto (tgt := 15) E dL_nearestBarge_9 (by decide) ?_
    refine ra_iconst E dL_nearestBarge_15 ki_0 ?_
    exact rx_iret E hr dL_nearestBarge_16 ⟨Nat.le_of_ble_eq_true rfl, Nat.le_of_ble_eq_true rfl⟩ h
def f_L_sail (p1 : Int32) (p2 : Int32) (M : TM) (K : Int32 → TM → Prop) : Prop := f_X12_sail p1 p2 M (fun r2 M1 => ∀ M4, M4 = u2 M1 710 0 r2 → K (0 : Int32) M4) (fun E9 M3 => (E9 = "java/lang/IndexOutOfBoundsException" ∧ K (1 : Int32) M3) ∨ (E9 = "java/lang/IllegalStateException" ∧ K (2 : Int32) M3))
set_option maxRecDepth 100000 in
set_option maxHeartbeats 4000000 in
theorem c_L_sail {ad : Nat → Nat} (p1 : Int32) (p2 : Int32) (M : TM) (K : Int32 → TM → Prop) (h : f_L_sail p1 p2 M K) : XW yL_sail cL_sail 5 (some .int) [(0, 10, 13, 18), (0, 10, 17, 118)] 9 4 ad [.ref (ad 0), .int p1, .int p2, .ref (ad 710)] M K := by
  refine XW_of RL rfl (by decide +kernel) (Nat.le_of_ble_eq_true rfl) (fun p l e s m below meth c D tc E hr hfl hTab => ?_)
  unfold f_L_sail at h
  refine ra_aload_n E dL_sail_0 rfl 3 rfl ?_
  refine ra_iconst E dL_sail_1 ki_0 ?_
  refine ra_aload_n E dL_sail_2 rfl 0 rfl ?_
  refine ra_iload_n E dL_sail_3 rfl 1 rfl ?_
  refine ra_iload_n E dL_sail_4 rfl 2 rfl ?_
  refine rx_callIVH (rest := [_, _]) E hfl (c_X12_sail _ _ _ _ _ h) (lq_X12 _) cv_X12_sail ml_L_115 (by decide) (lm (by decide)) (fun R => ⟨_, cel_0 tc ad R⟩) rfl rfl rfl (Nat.le_of_ble_eq_true rfl) ⟨Nat.le_of_ble_eq_true rfl, Nat.le_of_ble_eq_true rfl⟩ ⟨Nat.le_of_ble_eq_true rfl, Nat.le_of_ble_eq_true rfl⟩ dL_sail_5 (fun E9 M3 hX => ?_) (fun r2 M1 h => ?_)
  · rcases hX with ⟨rfl, h⟩ | ⟨rfl, h⟩
    · exact rx_catch hTab E [] [⟨0, 10, 17, 118⟩] ⟨0, 10, 13, 18⟩ rfl (fun _ hz => absurd hz List.not_mem_nil) (by decide +kernel) (by decide) kl_18 (by decide +kernel) (fun q5 => by
        refine ra_astore (L' := [(4, _), (0, _), (1, _), (2, _), (3, _)]) E dL_sail_13 (by decide) rfl ?_
        refine ra_iconst E dL_sail_15 ki_1 ?_
        exact rx_iret E hr dL_sail_16 ⟨Nat.le_of_ble_eq_true rfl, Nat.le_of_ble_eq_true rfl⟩ h
        )
    · exact rx_catch hTab E [⟨0, 10, 13, 18⟩] [] ⟨0, 10, 17, 118⟩ rfl (List.forall_mem_cons.mpr ⟨Or.inr ⟨by decide, "java/lang/IndexOutOfBoundsException", kl_18, E.2.2.2.2.2.2.2.1.2.2.2.2.2.2.2 _ (by decide +kernel) _ (by decide +kernel) (by decide +kernel)⟩, (fun _ hz => absurd hz List.not_mem_nil)⟩) (by decide +kernel) (by decide) kl_118 (by decide +kernel) (fun q6 => by
        refine ra_astore (L' := [(4, _), (0, _), (1, _), (2, _), (3, _)]) E dL_sail_17 (by decide) rfl ?_
        refine ra_iconst E dL_sail_19 ki_2 ?_
        exact rx_iret E hr dL_sail_20 ⟨Nat.le_of_ble_eq_true rfl, Nat.le_of_ble_eq_true rfl⟩ h
        )
  · skip
    refine ra_i2l E dL_sail_8 rfl ?_
    refine ra_last E (Nat.le_of_ble_eq_true rfl) rfl dL_sail_9 ?_
    replace h := h _ rfl
    refine ra_goto (tgt := 21) E dL_sail_10 (by decide) ?_
    refine ra_iconst E dL_sail_21 ki_0 ?_
    exact rx_iret E hr dL_sail_22 ⟨Nat.le_of_ble_eq_true rfl, Nat.le_of_ble_eq_true rfl⟩ h
def f_L_makeOrder (p1 : Int32) (p2 : Int32) (p3 : Int32) (p4 : Int32) (M : TM) (K : Int32 → TM → Prop) : Prop := f_X12_makeOrder p1 p2 p3 p4 M (fun r2 M1 => ∀ M4, M4 = u2 M1 710 0 r2 → K (0 : Int32) M4) (fun E9 M3 => (E9 = "java/lang/IndexOutOfBoundsException" ∧ K (1 : Int32) M3) ∨ (E9 = "java/lang/IllegalArgumentException" ∧ K (2 : Int32) M3) ∨ (E9 = "java/lang/IllegalStateException" ∧ K (3 : Int32) M3))
set_option maxRecDepth 100000 in
set_option maxHeartbeats 4000000 in
theorem c_L_makeOrder {ad : Nat → Nat} (p1 : Int32) (p2 : Int32) (p3 : Int32) (p4 : Int32) (M : TM) (K : Int32 → TM → Prop) (h : f_L_makeOrder p1 p2 p3 p4 M K) : XW yL_makeOrder cL_makeOrder 7 (some .int) [(0, 14, 17, 18), (0, 14, 21, 13), (0, 14, 25, 118)] 8 5 ad [.ref (ad 0), .int p1, .int p2, .int p3, .int p4, .ref (ad 710)] M K := by
  refine XW_of RL rfl (by decide +kernel) (Nat.le_of_ble_eq_true rfl) (fun p l e s m below meth c D tc E hr hfl hTab => ?_)
  unfold f_L_makeOrder at h
  refine ra_aload E dL_makeOrder_0 5 rfl ?_
  refine ra_iconst E dL_makeOrder_2 ki_0 ?_
  refine ra_aload_n E dL_makeOrder_3 rfl 0 rfl ?_
  refine ra_iload_n E dL_makeOrder_4 rfl 1 rfl ?_
  refine ra_iload_n E dL_makeOrder_5 rfl 2 rfl ?_
  refine ra_iload_n E dL_makeOrder_6 rfl 3 rfl ?_
  refine ra_iload E dL_makeOrder_7 4 rfl ?_
  refine rx_callIVH (rest := [_, _]) E hfl (c_X12_makeOrder _ _ _ _ _ _ _ h) (lq_X12 _) cv_X12_makeOrder ml_L_120 (by decide) (lm (by decide)) (fun R => ⟨_, cel_0 tc ad R⟩) rfl rfl rfl (Nat.le_of_ble_eq_true rfl) ⟨Nat.le_of_ble_eq_true rfl, Nat.le_of_ble_eq_true rfl⟩ ⟨Nat.le_of_ble_eq_true rfl, Nat.le_of_ble_eq_true rfl⟩ dL_makeOrder_9 (fun E9 M3 hX => ?_) (fun r2 M1 h => ?_)
  · rcases hX with ⟨rfl, h⟩ | ⟨rfl, h⟩ | ⟨rfl, h⟩
    · exact rx_catch hTab E [] [⟨0, 14, 21, 13⟩, ⟨0, 14, 25, 118⟩] ⟨0, 14, 17, 18⟩ rfl (fun _ hz => absurd hz List.not_mem_nil) (by decide +kernel) (by decide) kl_18 (by decide +kernel) (fun q5 => by
        refine ra_astore (L' := [(6, _), (0, _), (1, _), (2, _), (3, _), (4, _), (5, _)]) E dL_makeOrder_17 (by decide) rfl ?_
        refine ra_iconst E dL_makeOrder_19 ki_1 ?_
        exact rx_iret E hr dL_makeOrder_20 ⟨Nat.le_of_ble_eq_true rfl, Nat.le_of_ble_eq_true rfl⟩ h
        )
    · exact rx_catch hTab E [⟨0, 14, 17, 18⟩] [⟨0, 14, 25, 118⟩] ⟨0, 14, 21, 13⟩ rfl (List.forall_mem_cons.mpr ⟨Or.inr ⟨by decide, "java/lang/IndexOutOfBoundsException", kl_18, E.2.2.2.2.2.2.2.1.2.2.2.2.2.2.2 _ (by decide +kernel) _ (by decide +kernel) (by decide +kernel)⟩, (fun _ hz => absurd hz List.not_mem_nil)⟩) (by decide +kernel) (by decide) kl_13 (by decide +kernel) (fun q6 => by
        refine ra_astore (L' := [(6, _), (0, _), (1, _), (2, _), (3, _), (4, _), (5, _)]) E dL_makeOrder_21 (by decide) rfl ?_
        refine ra_iconst E dL_makeOrder_23 ki_2 ?_
        exact rx_iret E hr dL_makeOrder_24 ⟨Nat.le_of_ble_eq_true rfl, Nat.le_of_ble_eq_true rfl⟩ h
        )
    · exact rx_catch hTab E [⟨0, 14, 17, 18⟩, ⟨0, 14, 21, 13⟩] [] ⟨0, 14, 25, 118⟩ rfl (List.forall_mem_cons.mpr ⟨Or.inr ⟨by decide, "java/lang/IndexOutOfBoundsException", kl_18, E.2.2.2.2.2.2.2.1.2.2.2.2.2.2.2 _ (by decide +kernel) _ (by decide +kernel) (by decide +kernel)⟩, (List.forall_mem_cons.mpr ⟨Or.inr ⟨by decide, "java/lang/IllegalArgumentException", kl_13, E.2.2.2.2.2.2.2.1.2.2.2.2.2.2.2 _ (by decide +kernel) _ (by decide +kernel) (by decide +kernel)⟩, (fun _ hz => absurd hz List.not_mem_nil)⟩)⟩) (by decide +kernel) (by decide) kl_118 (by decide +kernel) (fun q7 => by
        refine ra_astore (L' := [(6, _), (0, _), (1, _), (2, _), (3, _), (4, _), (5, _)]) E dL_makeOrder_25 (by decide) rfl ?_
        refine ra_iconst E dL_makeOrder_27 ki_3 ?_
        exact rx_iret E hr dL_makeOrder_28 ⟨Nat.le_of_ble_eq_true rfl, Nat.le_of_ble_eq_true rfl⟩ h
        )
  · skip
    refine ra_i2l E dL_makeOrder_12 rfl ?_
    refine ra_last E (Nat.le_of_ble_eq_true rfl) rfl dL_makeOrder_13 ?_
    replace h := h _ rfl
    refine ra_goto (tgt := 29) E dL_makeOrder_14 (by decide) ?_
    refine ra_iconst E dL_makeOrder_29 ki_0 ?_
    exact rx_iret E hr dL_makeOrder_30 ⟨Nat.le_of_ble_eq_true rfl, Nat.le_of_ble_eq_true rfl⟩ h
def f_L_take (p1 : Int32) (p2 : Int32) (M : TM) (K : Int32 → TM → Prop) : Prop := f_X12_take p1 p2 M (fun r2 M1 => ∀ M4, M4 = u2 M1 710 0 r2 → K (0 : Int32) M4) (fun E9 M3 => (E9 = "java/lang/IndexOutOfBoundsException" ∧ K (1 : Int32) M3) ∨ (E9 = "java/lang/IllegalStateException" ∧ K (2 : Int32) M3))
set_option maxRecDepth 100000 in
set_option maxHeartbeats 4000000 in
theorem c_L_take {ad : Nat → Nat} (p1 : Int32) (p2 : Int32) (M : TM) (K : Int32 → TM → Prop) (h : f_L_take p1 p2 M K) : XW yL_take cL_take 5 (some .int) [(0, 10, 13, 18), (0, 10, 17, 118)] 9 4 ad [.ref (ad 0), .int p1, .int p2, .ref (ad 710)] M K := by
  refine XW_of RL rfl (by decide +kernel) (Nat.le_of_ble_eq_true rfl) (fun p l e s m below meth c D tc E hr hfl hTab => ?_)
  unfold f_L_take at h
  refine ra_aload_n E dL_take_0 rfl 3 rfl ?_
  refine ra_iconst E dL_take_1 ki_0 ?_
  refine ra_aload_n E dL_take_2 rfl 0 rfl ?_
  refine ra_iload_n E dL_take_3 rfl 1 rfl ?_
  refine ra_iload_n E dL_take_4 rfl 2 rfl ?_
  refine rx_callIVH (rest := [_, _]) E hfl (c_X12_take _ _ _ _ _ h) (lq_X12 _) cv_X12_take ml_L_124 (by decide) (lm (by decide)) (fun R => ⟨_, cel_0 tc ad R⟩) rfl rfl rfl (Nat.le_of_ble_eq_true rfl) ⟨Nat.le_of_ble_eq_true rfl, Nat.le_of_ble_eq_true rfl⟩ ⟨Nat.le_of_ble_eq_true rfl, Nat.le_of_ble_eq_true rfl⟩ dL_take_5 (fun E9 M3 hX => ?_) (fun r2 M1 h => ?_)
  · rcases hX with ⟨rfl, h⟩ | ⟨rfl, h⟩
    · exact rx_catch hTab E [] [⟨0, 10, 17, 118⟩] ⟨0, 10, 13, 18⟩ rfl (fun _ hz => absurd hz List.not_mem_nil) (by decide +kernel) (by decide) kl_18 (by decide +kernel) (fun q5 => by
        refine ra_astore (L' := [(4, _), (0, _), (1, _), (2, _), (3, _)]) E dL_take_13 (by decide) rfl ?_
        refine ra_iconst E dL_take_15 ki_1 ?_
        exact rx_iret E hr dL_take_16 ⟨Nat.le_of_ble_eq_true rfl, Nat.le_of_ble_eq_true rfl⟩ h
        )
    · exact rx_catch hTab E [⟨0, 10, 13, 18⟩] [] ⟨0, 10, 17, 118⟩ rfl (List.forall_mem_cons.mpr ⟨Or.inr ⟨by decide, "java/lang/IndexOutOfBoundsException", kl_18, E.2.2.2.2.2.2.2.1.2.2.2.2.2.2.2 _ (by decide +kernel) _ (by decide +kernel) (by decide +kernel)⟩, (fun _ hz => absurd hz List.not_mem_nil)⟩) (by decide +kernel) (by decide) kl_118 (by decide +kernel) (fun q6 => by
        refine ra_astore (L' := [(4, _), (0, _), (1, _), (2, _), (3, _)]) E dL_take_17 (by decide) rfl ?_
        refine ra_iconst E dL_take_19 ki_2 ?_
        exact rx_iret E hr dL_take_20 ⟨Nat.le_of_ble_eq_true rfl, Nat.le_of_ble_eq_true rfl⟩ h
        )
  · skip
    refine ra_i2l E dL_take_8 rfl ?_
    refine ra_last E (Nat.le_of_ble_eq_true rfl) rfl dL_take_9 ?_
    replace h := h _ rfl
    refine ra_goto (tgt := 21) E dL_take_10 (by decide) ?_
    refine ra_iconst E dL_take_21 ki_0 ?_
    exact rx_iret E hr dL_take_22 ⟨Nat.le_of_ble_eq_true rfl, Nat.le_of_ble_eq_true rfl⟩ h
def f_L_drop (p1 : Int32) (M : TM) (K : Int32 → TM → Prop) : Prop := f_X12_drop p1 M (fun r2 M1 => ∀ M4, M4 = u2 M1 710 0 r2 → K (0 : Int32) M4) (fun E9 M3 => (E9 = "java/lang/IndexOutOfBoundsException" ∧ K (1 : Int32) M3) ∨ (E9 = "java/lang/IllegalStateException" ∧ K (2 : Int32) M3))
set_option maxRecDepth 100000 in
set_option maxHeartbeats 4000000 in
theorem c_L_drop {ad : Nat → Nat} (p1 : Int32) (M : TM) (K : Int32 → TM → Prop) (h : f_L_drop p1 M K) : XW yL_drop cL_drop 4 (some .int) [(0, 9, 12, 18), (0, 9, 15, 118)] 9 3 ad [.ref (ad 0), .int p1, .ref (ad 710)] M K := by
  refine XW_of RL rfl (by decide +kernel) (Nat.le_of_ble_eq_true rfl) (fun p l e s m below meth c D tc E hr hfl hTab => ?_)
  unfold f_L_drop at h
  refine ra_aload_n E dL_drop_0 rfl 2 rfl ?_
  refine ra_iconst E dL_drop_1 ki_0 ?_
  refine ra_aload_n E dL_drop_2 rfl 0 rfl ?_
  refine ra_iload_n E dL_drop_3 rfl 1 rfl ?_
  refine rx_callIVH (rest := [_, _]) E hfl (c_X12_drop _ _ _ _ h) (lq_X12 _) cv_X12_drop ml_L_127 (by decide) (lm (by decide)) (fun R => ⟨_, cel_0 tc ad R⟩) rfl rfl rfl (Nat.le_of_ble_eq_true rfl) ⟨Nat.le_of_ble_eq_true rfl, Nat.le_of_ble_eq_true rfl⟩ ⟨Nat.le_of_ble_eq_true rfl, Nat.le_of_ble_eq_true rfl⟩ dL_drop_4 (fun E9 M3 hX => ?_) (fun r2 M1 h => ?_)
  · rcases hX with ⟨rfl, h⟩ | ⟨rfl, h⟩
    · exact rx_catch hTab E [] [⟨0, 9, 15, 118⟩] ⟨0, 9, 12, 18⟩ rfl (fun _ hz => absurd hz List.not_mem_nil) (by decide +kernel) (by decide) kl_18 (by decide +kernel) (fun q5 => by
        refine ra_astore_n (L' := [(3, _), (0, _), (1, _), (2, _)]) E dL_drop_12 rfl (by decide) rfl ?_
        refine ra_iconst E dL_drop_13 ki_1 ?_
        exact rx_iret E hr dL_drop_14 ⟨Nat.le_of_ble_eq_true rfl, Nat.le_of_ble_eq_true rfl⟩ h
        )
    · exact rx_catch hTab E [⟨0, 9, 12, 18⟩] [] ⟨0, 9, 15, 118⟩ rfl (List.forall_mem_cons.mpr ⟨Or.inr ⟨by decide, "java/lang/IndexOutOfBoundsException", kl_18, E.2.2.2.2.2.2.2.1.2.2.2.2.2.2.2 _ (by decide +kernel) _ (by decide +kernel) (by decide +kernel)⟩, (fun _ hz => absurd hz List.not_mem_nil)⟩) (by decide +kernel) (by decide) kl_118 (by decide +kernel) (fun q6 => by
        refine ra_astore_n (L' := [(3, _), (0, _), (1, _), (2, _)]) E dL_drop_15 rfl (by decide) rfl ?_
        refine ra_iconst E dL_drop_16 ki_2 ?_
        exact rx_iret E hr dL_drop_17 ⟨Nat.le_of_ble_eq_true rfl, Nat.le_of_ble_eq_true rfl⟩ h
        )
  · skip
    refine ra_i2l E dL_drop_7 rfl ?_
    refine ra_last E (Nat.le_of_ble_eq_true rfl) rfl dL_drop_8 ?_
    replace h := h _ rfl
    refine ra_goto (tgt := 18) E dL_drop_9 (by decide) ?_
    refine ra_iconst E dL_drop_18 ki_0 ?_
    exact rx_iret E hr dL_drop_19 ⟨Nat.le_of_ble_eq_true rfl, Nat.le_of_ble_eq_true rfl⟩ h
def f_L_buyFlour (p1 : Int32) (p2 : Int32) (M : TM) (K : Int32 → TM → Prop) : Prop := f_X12_buyFlour p1 p2 M (fun r2 M1 => ∀ M4, M4 = u2 M1 710 0 r2 → K (0 : Int32) M4) (fun E9 M3 => (E9 = "java/lang/IndexOutOfBoundsException" ∧ K (1 : Int32) M3) ∨ (E9 = "java/lang/IllegalArgumentException" ∧ K (2 : Int32) M3) ∨ (E9 = "java/lang/IllegalStateException" ∧ K (3 : Int32) M3))
set_option maxRecDepth 100000 in
set_option maxHeartbeats 4000000 in
theorem c_L_buyFlour {ad : Nat → Nat} (p1 : Int32) (p2 : Int32) (M : TM) (K : Int32 → TM → Prop) (h : f_L_buyFlour p1 p2 M K) : XW yL_buyFlour cL_buyFlour 5 (some .int) [(0, 10, 13, 18), (0, 10, 17, 13), (0, 10, 21, 118)] 9 4 ad [.ref (ad 0), .int p1, .int p2, .ref (ad 710)] M K := by
  refine XW_of RL rfl (by decide +kernel) (Nat.le_of_ble_eq_true rfl) (fun p l e s m below meth c D tc E hr hfl hTab => ?_)
  unfold f_L_buyFlour at h
  refine ra_aload_n E dL_buyFlour_0 rfl 3 rfl ?_
  refine ra_iconst E dL_buyFlour_1 ki_0 ?_
  refine ra_aload_n E dL_buyFlour_2 rfl 0 rfl ?_
  refine ra_iload_n E dL_buyFlour_3 rfl 1 rfl ?_
  refine ra_iload_n E dL_buyFlour_4 rfl 2 rfl ?_
  refine rx_callIVH (rest := [_, _]) E hfl (c_X12_buyFlour _ _ _ _ _ h) (lq_X12 _) cv_X12_buyFlour ml_L_130 (by decide) (lm (by decide)) (fun R => ⟨_, cel_0 tc ad R⟩) rfl rfl rfl (Nat.le_of_ble_eq_true rfl) ⟨Nat.le_of_ble_eq_true rfl, Nat.le_of_ble_eq_true rfl⟩ ⟨Nat.le_of_ble_eq_true rfl, Nat.le_of_ble_eq_true rfl⟩ dL_buyFlour_5 (fun E9 M3 hX => ?_) (fun r2 M1 h => ?_)
  · rcases hX with ⟨rfl, h⟩ | ⟨rfl, h⟩ | ⟨rfl, h⟩
    · exact rx_catch hTab E [] [⟨0, 10, 17, 13⟩, ⟨0, 10, 21, 118⟩] ⟨0, 10, 13, 18⟩ rfl (fun _ hz => absurd hz List.not_mem_nil) (by decide +kernel) (by decide) kl_18 (by decide +kernel) (fun q5 => by
        refine ra_astore (L' := [(4, _), (0, _), (1, _), (2, _), (3, _)]) E dL_buyFlour_13 (by decide) rfl ?_
        refine ra_iconst E dL_buyFlour_15 ki_1 ?_
        exact rx_iret E hr dL_buyFlour_16 ⟨Nat.le_of_ble_eq_true rfl, Nat.le_of_ble_eq_true rfl⟩ h
        )
    · exact rx_catch hTab E [⟨0, 10, 13, 18⟩] [⟨0, 10, 21, 118⟩] ⟨0, 10, 17, 13⟩ rfl (List.forall_mem_cons.mpr ⟨Or.inr ⟨by decide, "java/lang/IndexOutOfBoundsException", kl_18, E.2.2.2.2.2.2.2.1.2.2.2.2.2.2.2 _ (by decide +kernel) _ (by decide +kernel) (by decide +kernel)⟩, (fun _ hz => absurd hz List.not_mem_nil)⟩) (by decide +kernel) (by decide) kl_13 (by decide +kernel) (fun q6 => by
        refine ra_astore (L' := [(4, _), (0, _), (1, _), (2, _), (3, _)]) E dL_buyFlour_17 (by decide) rfl ?_
        refine ra_iconst E dL_buyFlour_19 ki_2 ?_
        exact rx_iret E hr dL_buyFlour_20 ⟨Nat.le_of_ble_eq_true rfl, Nat.le_of_ble_eq_true rfl⟩ h
        )
    · exact rx_catch hTab E [⟨0, 10, 13, 18⟩, ⟨0, 10, 17, 13⟩] [] ⟨0, 10, 21, 118⟩ rfl (List.forall_mem_cons.mpr ⟨Or.inr ⟨by decide, "java/lang/IndexOutOfBoundsException", kl_18, E.2.2.2.2.2.2.2.1.2.2.2.2.2.2.2 _ (by decide +kernel) _ (by decide +kernel) (by decide +kernel)⟩, (List.forall_mem_cons.mpr ⟨Or.inr ⟨by decide, "java/lang/IllegalArgumentException", kl_13, E.2.2.2.2.2.2.2.1.2.2.2.2.2.2.2 _ (by decide +kernel) _ (by decide +kernel) (by decide +kernel)⟩, (fun _ hz => absurd hz List.not_mem_nil)⟩)⟩) (by decide +kernel) (by decide) kl_118 (by decide +kernel) (fun q7 => by
        refine ra_astore (L' := [(4, _), (0, _), (1, _), (2, _), (3, _)]) E dL_buyFlour_21 (by decide) rfl ?_
        refine ra_iconst E dL_buyFlour_23 ki_3 ?_
        exact rx_iret E hr dL_buyFlour_24 ⟨Nat.le_of_ble_eq_true rfl, Nat.le_of_ble_eq_true rfl⟩ h
        )
  · skip
    refine ra_i2l E dL_buyFlour_8 rfl ?_
    refine ra_last E (Nat.le_of_ble_eq_true rfl) rfl dL_buyFlour_9 ?_
    replace h := h _ rfl
    refine ra_goto (tgt := 25) E dL_buyFlour_10 (by decide) ?_
    refine ra_iconst E dL_buyFlour_25 ki_0 ?_
    exact rx_iret E hr dL_buyFlour_26 ⟨Nat.le_of_ble_eq_true rfl, Nat.le_of_ble_eq_true rfl⟩ h
def f_L_collect (p1 : Int32) (M : TM) (K : Int32 → TM → Prop) : Prop := f_X12_collect p1 M (fun r2 M1 => ∀ M4, M4 = u2 M1 710 0 r2 → K (0 : Int32) M4) (fun E9 M3 => (E9 = "java/lang/IndexOutOfBoundsException" ∧ K (1 : Int32) M3) ∨ (E9 = "java/lang/IllegalStateException" ∧ K (2 : Int32) M3))
set_option maxRecDepth 100000 in
set_option maxHeartbeats 4000000 in
theorem c_L_collect {ad : Nat → Nat} (p1 : Int32) (M : TM) (K : Int32 → TM → Prop) (h : f_L_collect p1 M K) : XW yL_collect cL_collect 4 (some .int) [(0, 9, 12, 18), (0, 9, 15, 118)] 9 4 ad [.ref (ad 0), .int p1, .ref (ad 710)] M K := by
  refine XW_of RL rfl (by decide +kernel) (Nat.le_of_ble_eq_true rfl) (fun p l e s m below meth c D tc E hr hfl hTab => ?_)
  unfold f_L_collect at h
  refine ra_aload_n E dL_collect_0 rfl 2 rfl ?_
  refine ra_iconst E dL_collect_1 ki_0 ?_
  refine ra_aload_n E dL_collect_2 rfl 0 rfl ?_
  refine ra_iload_n E dL_collect_3 rfl 1 rfl ?_
  refine rx_callIVH (rest := [_, _]) E hfl (c_X12_collect _ _ _ _ h) (lq_X12 _) cv_X12_collect ml_L_133 (by decide) (lm (by decide)) (fun R => ⟨_, cel_0 tc ad R⟩) rfl rfl rfl (Nat.le_of_ble_eq_true rfl) ⟨Nat.le_of_ble_eq_true rfl, Nat.le_of_ble_eq_true rfl⟩ ⟨Nat.le_of_ble_eq_true rfl, Nat.le_of_ble_eq_true rfl⟩ dL_collect_4 (fun E9 M3 hX => ?_) (fun r2 M1 h => ?_)
  · rcases hX with ⟨rfl, h⟩ | ⟨rfl, h⟩
    · exact rx_catch hTab E [] [⟨0, 9, 15, 118⟩] ⟨0, 9, 12, 18⟩ rfl (fun _ hz => absurd hz List.not_mem_nil) (by decide +kernel) (by decide) kl_18 (by decide +kernel) (fun q5 => by
        refine ra_astore_n (L' := [(3, _), (0, _), (1, _), (2, _)]) E dL_collect_12 rfl (by decide) rfl ?_
        refine ra_iconst E dL_collect_13 ki_1 ?_
        exact rx_iret E hr dL_collect_14 ⟨Nat.le_of_ble_eq_true rfl, Nat.le_of_ble_eq_true rfl⟩ h
        )
    · exact rx_catch hTab E [⟨0, 9, 12, 18⟩] [] ⟨0, 9, 15, 118⟩ rfl (List.forall_mem_cons.mpr ⟨Or.inr ⟨by decide, "java/lang/IndexOutOfBoundsException", kl_18, E.2.2.2.2.2.2.2.1.2.2.2.2.2.2.2 _ (by decide +kernel) _ (by decide +kernel) (by decide +kernel)⟩, (fun _ hz => absurd hz List.not_mem_nil)⟩) (by decide +kernel) (by decide) kl_118 (by decide +kernel) (fun q6 => by
        refine ra_astore_n (L' := [(3, _), (0, _), (1, _), (2, _)]) E dL_collect_15 rfl (by decide) rfl ?_
        refine ra_iconst E dL_collect_16 ki_2 ?_
        exact rx_iret E hr dL_collect_17 ⟨Nat.le_of_ble_eq_true rfl, Nat.le_of_ble_eq_true rfl⟩ h
        )
  · skip
    refine ra_i2l E dL_collect_7 rfl ?_
    refine ra_last E (Nat.le_of_ble_eq_true rfl) rfl dL_collect_8 ?_
    replace h := h _ rfl
    refine ra_goto (tgt := 18) E dL_collect_9 (by decide) ?_
    refine ra_iconst E dL_collect_18 ki_0 ?_
    exact rx_iret E hr dL_collect_19 ⟨Nat.le_of_ble_eq_true rfl, Nat.le_of_ble_eq_true rfl⟩ h
def f_L_wash (p1 : Int32) (M : TM) (K : Int32 → TM → Prop) : Prop := f_X12_wash p1 M (fun r2 M1 => ∀ M4, M4 = u2 M1 710 0 r2 → K (0 : Int32) M4) (fun E9 M3 => (E9 = "java/lang/IndexOutOfBoundsException" ∧ K (1 : Int32) M3) ∨ (E9 = "java/lang/IllegalStateException" ∧ K (2 : Int32) M3))
set_option maxRecDepth 100000 in
set_option maxHeartbeats 4000000 in
theorem c_L_wash {ad : Nat → Nat} (p1 : Int32) (M : TM) (K : Int32 → TM → Prop) (h : f_L_wash p1 M K) : XW yL_wash cL_wash 4 (some .int) [(0, 9, 12, 18), (0, 9, 15, 118)] 9 3 ad [.ref (ad 0), .int p1, .ref (ad 710)] M K := by
  refine XW_of RL rfl (by decide +kernel) (Nat.le_of_ble_eq_true rfl) (fun p l e s m below meth c D tc E hr hfl hTab => ?_)
  unfold f_L_wash at h
  refine ra_aload_n E dL_wash_0 rfl 2 rfl ?_
  refine ra_iconst E dL_wash_1 ki_0 ?_
  refine ra_aload_n E dL_wash_2 rfl 0 rfl ?_
  refine ra_iload_n E dL_wash_3 rfl 1 rfl ?_
  refine rx_callIVH (rest := [_, _]) E hfl (c_X12_wash _ _ _ _ h) (lq_X12 _) cv_X12_wash ml_L_136 (by decide) (lm (by decide)) (fun R => ⟨_, cel_0 tc ad R⟩) rfl rfl rfl (Nat.le_of_ble_eq_true rfl) ⟨Nat.le_of_ble_eq_true rfl, Nat.le_of_ble_eq_true rfl⟩ ⟨Nat.le_of_ble_eq_true rfl, Nat.le_of_ble_eq_true rfl⟩ dL_wash_4 (fun E9 M3 hX => ?_) (fun r2 M1 h => ?_)
  · rcases hX with ⟨rfl, h⟩ | ⟨rfl, h⟩
    · exact rx_catch hTab E [] [⟨0, 9, 15, 118⟩] ⟨0, 9, 12, 18⟩ rfl (fun _ hz => absurd hz List.not_mem_nil) (by decide +kernel) (by decide) kl_18 (by decide +kernel) (fun q5 => by
        refine ra_astore_n (L' := [(3, _), (0, _), (1, _), (2, _)]) E dL_wash_12 rfl (by decide) rfl ?_
        refine ra_iconst E dL_wash_13 ki_1 ?_
        exact rx_iret E hr dL_wash_14 ⟨Nat.le_of_ble_eq_true rfl, Nat.le_of_ble_eq_true rfl⟩ h
        )
    · exact rx_catch hTab E [⟨0, 9, 12, 18⟩] [] ⟨0, 9, 15, 118⟩ rfl (List.forall_mem_cons.mpr ⟨Or.inr ⟨by decide, "java/lang/IndexOutOfBoundsException", kl_18, E.2.2.2.2.2.2.2.1.2.2.2.2.2.2.2 _ (by decide +kernel) _ (by decide +kernel) (by decide +kernel)⟩, (fun _ hz => absurd hz List.not_mem_nil)⟩) (by decide +kernel) (by decide) kl_118 (by decide +kernel) (fun q6 => by
        refine ra_astore_n (L' := [(3, _), (0, _), (1, _), (2, _)]) E dL_wash_15 rfl (by decide) rfl ?_
        refine ra_iconst E dL_wash_16 ki_2 ?_
        exact rx_iret E hr dL_wash_17 ⟨Nat.le_of_ble_eq_true rfl, Nat.le_of_ble_eq_true rfl⟩ h
        )
  · skip
    refine ra_i2l E dL_wash_7 rfl ?_
    refine ra_last E (Nat.le_of_ble_eq_true rfl) rfl dL_wash_8 ?_
    replace h := h _ rfl
    refine ra_goto (tgt := 18) E dL_wash_9 (by decide) ?_
    refine ra_iconst E dL_wash_18 ki_0 ?_
    exact rx_iret E hr dL_wash_19 ⟨Nat.le_of_ble_eq_true rfl, Nat.le_of_ble_eq_true rfl⟩ h
def f_X13_readRepeat_L46 (fc : Int32 → TM → (TM → Prop) → Prop) (p1 : Int32) (p2 : Int32) (K : TM → Prop) (x1 : Int32) (M : TM) : Prop := f_X13_expect (41 : Int32) M (fun M7 => vp_in (x1 + (2 : Int32)) 100 ∧ ∀ M9, M9 = u2 M7 708 (x1 + (2 : Int32)).toNatClampNeg (M7 699 26) → K M9)
set_option maxRecDepth 100000 in
set_option maxHeartbeats 4000000 in
theorem l_X13_readRepeat_L46 {p : Program} {l : Launch} {e : Env} {s : State} {m : MethodId} {args : Array Value} {below : List Frame} {meth : Method} {c : Code} {D : va_G} {tc : Nat → ClassId} {ad : Nat → Nat} (fc : Int32 → TM → (TM → Prop) → Prop) (dd : Nat) (hd : 5 ≤ dd) (hfc : ∀ (p1 : Int32) (M : TM) (K : TM → Prop), fc p1 M K → MV yX13_readCommand cX13_readCommand 4 dd ad [.ref (ad 699), .int p1] M K) (p1 : Int32) (p2 : Int32) {K : TM → Prop} (E : Ev p s m args meth c D tc ad RX13 cX13_readRepeat 3) (hr : meth.sig.returnType = none) : ∀ (x1 : Int32) (M : TM) , f_X13_readRepeat_L46 fc p1 p2 K x1 M → Wa p l e (rmD (dd + 1)) s m args below meth c 0 0 (MQ below (va_Qv K (EndW D tc ad) (A0 ad s.heap.size)) args s 0 0 (A0 ad s.heap.size)) D tc ad 3 M 46 [(0, .ref (ad 699)), (1, .int x1)] [] := by
  intro x1 M  h
  unfold f_X13_readRepeat_L46 at h
  refine ra_aload_n E dX13_readRepeat_46 rfl 0 rfl ?_
  refine ra_bipush E dX13_readRepeat_47 kb_41 ?_
  refine ra_callVV (rest := []) E (c_X13_expect _ _ _ h) lq_13 cv_X13_expect ml_X13_372 (by decide) (lmM (by decide)) (fun R => ⟨_, cel_699 tc ad R⟩) rfl rfl rfl (Nat.le_of_ble_eq_true rfl) (rR hd (Nat.le_of_ble_eq_true rfl)) ⟨Nat.zero_le _, Nat.zero_le _⟩ dX13_readRepeat_49 (fun M7 h => ?_)
  refine ra_aload_n E dX13_readRepeat_52 rfl 0 rfl ?_
  refine gf_X13_24 E lm13 fl_X13_41 dX13_readRepeat_53 ?_
  refine ra_iload_n E dX13_readRepeat_56 rfl 1 rfl ?_
  refine ra_iconst E dX13_readRepeat_57 ki_2 ?_
  refine ra_iadd E dX13_readRepeat_58 ?_
  refine ra_aload_n E dX13_readRepeat_59 rfl 0 rfl ?_
  refine gf_X13_26 E lm13 fl_X13_408 dX13_readRepeat_60 ?_
  obtain ⟨g8, h⟩ := h
  refine ra_iast E (lmM (by decide)) (cel_708 tc ad) g8 dX13_readRepeat_63 ?_
  replace h := h _ rfl
  exact ra_vret E hr dX13_readRepeat_64 h
def f_X13_readRepeat_L20 (fc : Int32 → TM → (TM → Prop) → Prop) (p1 : Int32) (p2 : Int32) (K : TM → Prop) : Nat → Int32 → Int32 → TM → Prop
  | 0, _, _, _ => False
  | n + 1, x1, x2, M => ((¬ (M 699 20) = 0 → f_X13_readRepeat_L46 fc p1 p2 K x1 M) ∧ ((M 699 20) = 0 → f_X13_isSymbol (41 : Int32) M (fun r11 M10 => ((¬ r11 = 0 → f_X13_readRepeat_L46 fc p1 p2 K x1 M10) ∧ (r11 = 0 → fc (x2 + (1 : Int32)) M10 (fun M14 => f_X13_readRepeat_L20 fc p1 p2 K n x1 x2 M14))))))
set_option maxRecDepth 100000 in
set_option maxHeartbeats 4000000 in
theorem l_X13_readRepeat_L20 {p : Program} {l : Launch} {e : Env} {s : State} {m : MethodId} {args : Array Value} {below : List Frame} {meth : Method} {c : Code} {D : va_G} {tc : Nat → ClassId} {ad : Nat → Nat} (fc : Int32 → TM → (TM → Prop) → Prop) (dd : Nat) (hd : 5 ≤ dd) (hfc : ∀ (p1 : Int32) (M : TM) (K : TM → Prop), fc p1 M K → MV yX13_readCommand cX13_readCommand 4 dd ad [.ref (ad 699), .int p1] M K) (p1 : Int32) (p2 : Int32) {K : TM → Prop} (E : Ev p s m args meth c D tc ad RX13 cX13_readRepeat 3) (hr : meth.sig.returnType = none) : ∀ (n : Nat) (x1 : Int32) (x2 : Int32) (M : TM) , f_X13_readRepeat_L20 fc p1 p2 K n x1 x2 M → Wa p l e (rmD (dd + 1)) s m args below meth c 0 0 (MQ below (va_Qv K (EndW D tc ad) (A0 ad s.heap.size)) args s 0 0 (A0 ad s.heap.size)) D tc ad 3 M 20 [(0, .ref (ad 699)), (1, .int x1), (2, .int x2)] [] := by
  intro n
  induction n with
  | zero => intro x1 x2 M  h; exact h.elim
  | succ n ih =>
    intro x1 x2 M  h
    unfold f_X13_readRepeat_L20 at h
    refine ra_aload_n E dX13_readRepeat_20 rfl 0 rfl ?_
    refine gf_X13_20 E lm13 fl_X13_323 dX13_readRepeat_21 ?_
    refine ra_if_ne (tgt := 46) E dX13_readRepeat_24 (by decide) (fun q6 => ?_) (fun q6 => ?_)
    · replace h := h.1 q6
      exact ra_sub (L' := [(0, _), (1, _)]) [0, 1] rfl (l_X13_readRepeat_L46 fc dd hd hfc p1 p2 E hr _ _ h)
    · replace h := h.2 q6
      refine ra_aload_n E dX13_readRepeat_27 rfl 0 rfl ?_
      refine ra_bipush E dX13_readRepeat_28 kb_41 ?_
      refine ra_callIV (rest := []) E (c_X13_isSymbol _ _ _ h) lq_13 cv_X13_isSymbol ml_X13_346 (by decide) (lmM (by decide)) (fun R => ⟨_, cel_699 tc ad R⟩) rfl rfl rfl (Nat.le_of_ble_eq_true rfl) (rR hd (Nat.le_of_ble_eq_true rfl)) ⟨Nat.zero_le _, Nat.zero_le _⟩ dX13_readRepeat_30 (fun r11 M10 h => ?_)
      obtain ⟨b12, h⟩ := h
      refine ra_if_ne (tgt := 46) E dX13_readRepeat_33 (by decide) (fun q13 => ?_) (fun q13 => ?_)
      · replace h := h.1 q13
        exact ra_sub (L' := [(0, _), (1, _)]) [0, 1] rfl (l_X13_readRepeat_L46 fc dd hd hfc p1 p2 E hr _ _ h)
      · replace h := h.2 q13
        refine ra_aload_n E dX13_readRepeat_36 rfl 0 rfl ?_
        refine ra_iload_n E dX13_readRepeat_37 rfl 2 rfl ?_
        refine ra_iconst E dX13_readRepeat_38 ki_1 ?_
        refine ra_iadd E dX13_readRepeat_39 ?_
        refine ra_callVV (rest := []) E (hfc _ _ _ h) lq_13 cv_X13_readCommand ml_X13_405 (by decide) (lmM (by decide)) (fun R => ⟨_, cel_699 tc ad R⟩) rfl rfl rfl (Nat.le_of_ble_eq_true rfl) ⟨Nat.le_refl _, Nat.le_refl _⟩ ⟨Nat.zero_le _, Nat.zero_le _⟩ dX13_readRepeat_40 (fun M14 h => ?_)
        refine ra_goto (tgt := 20) E dX13_readRepeat_43 (by decide) ?_
        exact ra_sub (L' := [(0, _), (1, _), (2, _)]) [0, 1, 2] rfl (ih _ _ _ h)
def f_X13_readRepeat (fc : Int32 → TM → (TM → Prop) → Prop) (p1 : Int32) (p2 : Int32) (M : TM) (K : TM → Prop) : Prop := f_X13_readNumber (2 : Int32) (5 : Int32) M (fun r2 M1 => vp_in (p1 + (1 : Int32)) 100 ∧ ∀ M4, M4 = u2 M1 708 (p1 + (1 : Int32)).toNatClampNeg r2 → f_X13_expect (40 : Int32) M4 (fun M5 => ∃ n, f_X13_readRepeat_L20 fc p1 p2 K n p1 p2 M5))
set_option maxRecDepth 100000 in
set_option maxHeartbeats 4000000 in
theorem c_X13_readRepeat {ad : Nat → Nat} (fc : Int32 → TM → (TM → Prop) → Prop) (dd : Nat) (hd : 5 ≤ dd) (hfc : ∀ (p1 : Int32) (M : TM) (K : TM → Prop), fc p1 M K → MV yX13_readCommand cX13_readCommand 4 dd ad [.ref (ad 699), .int p1] M K) (p1 : Int32) (p2 : Int32) (M : TM) (K : TM → Prop) (h : f_X13_readRepeat fc p1 p2 M K) : MV yX13_readRepeat cX13_readRepeat 3 (dd + 1) ad [.ref (ad 699), .int p1, .int p2] M K := by
  refine MV_of RX13 rfl (by decide +kernel) (Nat.le_of_ble_eq_true rfl) (fun p l e s m below meth c D tc E hr => ?_)
  unfold f_X13_readRepeat at h
  refine ra_aload_n E dX13_readRepeat_0 rfl 0 rfl ?_
  refine gf_X13_24 E lm13 fl_X13_41 dX13_readRepeat_1 ?_
  refine ra_iload_n E dX13_readRepeat_4 rfl 1 rfl ?_
  refine ra_iconst E dX13_readRepeat_5 ki_1 ?_
  refine ra_iadd E dX13_readRepeat_6 ?_
  refine ra_aload_n E dX13_readRepeat_7 rfl 0 rfl ?_
  refine ra_iconst E dX13_readRepeat_8 ki_2 ?_
  refine ra_iconst E dX13_readRepeat_9 ki_5 ?_
  refine ra_callIV (rest := [_, _]) E (c_X13_readNumber _ _ _ _ h) lq_13 cv_X13_readNumber ml_X13_369 (by decide) (lmM (by decide)) (fun R => ⟨_, cel_699 tc ad R⟩) rfl rfl rfl (Nat.le_of_ble_eq_true rfl) (rR hd (Nat.le_of_ble_eq_true rfl)) ⟨Nat.zero_le _, Nat.zero_le _⟩ dX13_readRepeat_10 (fun r2 M1 h => ?_)
  obtain ⟨g3, h⟩ := h
  refine ra_iast E (lmM (by decide)) (cel_708 tc ad) g3 dX13_readRepeat_13 ?_
  replace h := h _ rfl
  refine ra_aload_n E dX13_readRepeat_14 rfl 0 rfl ?_
  refine ra_bipush E dX13_readRepeat_15 kb_40 ?_
  refine ra_callVV (rest := []) E (c_X13_expect _ _ _ h) lq_13 cv_X13_expect ml_X13_372 (by decide) (lmM (by decide)) (fun R => ⟨_, cel_699 tc ad R⟩) rfl rfl rfl (Nat.le_of_ble_eq_true rfl) (rR hd (Nat.le_of_ble_eq_true rfl)) ⟨Nat.zero_le _, Nat.zero_le _⟩ dX13_readRepeat_17 (fun M5 h => ?_)
  obtain ⟨n15, h⟩ := h
  exact ra_sub (L' := [(0, _), (1, _), (2, _)]) [0, 1, 2] rfl (l_X13_readRepeat_L20 fc dd hd hfc p1 p2 E hr n15 _ _ _ h)
def f_X13_readCommand_L157 (fc : Int32 → Int32 → TM → (TM → Prop) → Prop) (p1 : Int32) (K : TM → Prop) (x2 : Int32) (x3 : Int32) (z0 : Int32) (z1 : Int32) (M : TM) : Prop := vp_in z1 100 ∧ ∀ M23, M23 = u2 M 708 z1.toNatClampNeg z0 → ((¬ x2 = (1 : Int32) → vp_in (x3 + (4 : Int32)) 100 ∧ ∀ M26, M26 = u2 M23 708 (x3 + (4 : Int32)).toNatClampNeg (0 : Int32) → f_X13_expect (59 : Int32) M26 (fun M27 => K M27)) ∧ (x2 = (1 : Int32) → f_X13_readNumber (1 : Int32) (500 : Int32) M23 (fun r29 M28 => vp_in (x3 + (4 : Int32)) 100 ∧ ∀ M31, M31 = u2 M28 708 (x3 + (4 : Int32)).toNatClampNeg r29 → f_X13_expect (59 : Int32) M31 (fun M32 => K M32))))
set_option maxRecDepth 100000 in
set_option maxHeartbeats 4000000 in
theorem l_X13_readCommand_L157 {p : Program} {l : Launch} {e : Env} {s : State} {m : MethodId} {args : Array Value} {below : List Frame} {meth : Method} {c : Code} {D : va_G} {tc : Nat → ClassId} {ad : Nat → Nat} (fc : Int32 → Int32 → TM → (TM → Prop) → Prop) (dd : Nat) (hd : 5 ≤ dd) (hfc : ∀ (p1 : Int32) (p2 : Int32) (M : TM) (K : TM → Prop), fc p1 p2 M K → MV yX13_readRepeat cX13_readRepeat 3 dd ad [.ref (ad 699), .int p1, .int p2] M K) (p1 : Int32) {K : TM → Prop} (E : Ev p s m args meth c D tc ad RX13 cX13_readCommand 4) (hr : meth.sig.returnType = none) : ∀ (x2 : Int32) (x3 : Int32) (z0 : Int32) (z1 : Int32) (M : TM) , f_X13_readCommand_L157 fc p1 K x2 x3 z0 z1 M → Wa p l e (rmD (dd + 1)) s m args below meth c 0 0 (MQ below (va_Qv K (EndW D tc ad) (A0 ad s.heap.size)) args s 0 0 (A0 ad s.heap.size)) D tc ad 4 M 157 [(0, .ref (ad 699)), (2, .int x2), (3, .int x3)] [.int z0, .int z1, .ref (ad 708)] := by
  intro x2 x3 z0 z1 M  h
  unfold f_X13_readCommand_L157 at h
  obtain ⟨g22, h⟩ := h
  refine ra_iast E (lmM (by decide)) (cel_708 tc ad) g22 dX13_readCommand_157 ?_
  replace h := h _ rfl
  refine ra_aload_n E dX13_readCommand_158 rfl 0 rfl ?_
  refine gf_X13_24 E lm13 fl_X13_41 dX13_readCommand_159 ?_
  refine ra_iload_n E dX13_readCommand_162 rfl 2 rfl ?_
  refine ra_iconst E dX13_readCommand_163 ki_4 ?_
  refine ra_iadd E dX13_readCommand_164 ?_
  refine ra_iload_n E dX13_readCommand_165 rfl 1 rfl ?_
  refine ra_iconst E dX13_readCommand_166 ki_1 ?_
  refine ra_icmp_ne (tgt := 181) E dX13_readCommand_167 (by decide) (fun q24 => ?_) (fun q24 => ?_)
  · replace h := h.1 q24
    refine ra_iconst E dX13_readCommand_181 ki_0 ?_
    obtain ⟨g25, h⟩ := h
    refine ra_iast E (lmM (by decide)) (cel_708 tc ad) g25 dX13_readCommand_182 ?_
    replace h := h _ rfl
    refine ra_aload_n E dX13_readCommand_183 rfl 0 rfl ?_
    refine ra_bipush E dX13_readCommand_184 kb_59 ?_
    refine ra_callVV (rest := []) E (c_X13_expect _ _ _ h) lq_13 cv_X13_expect ml_X13_372 (by decide) (lmM (by decide)) (fun R => ⟨_, cel_699 tc ad R⟩) rfl rfl rfl (Nat.le_of_ble_eq_true rfl) (rR hd (Nat.le_of_ble_eq_true rfl)) ⟨Nat.zero_le _, Nat.zero_le _⟩ dX13_readCommand_186 (fun M27 h => ?_)
    exact ra_vret E hr dX13_readCommand_189 h
  · replace h := h.2 q24
    refine ra_aload_n E dX13_readCommand_170 rfl 0 rfl ?_
    refine ra_iconst E dX13_readCommand_171 ki_1 ?_
    refine ra_sipush E dX13_readCommand_172 ks_500 ?_
    refine ra_callIV (rest := [_, _]) E (c_X13_readNumber _ _ _ _ h) lq_13 cv_X13_readNumber ml_X13_369 (by decide) (lmM (by decide)) (fun R => ⟨_, cel_699 tc ad R⟩) rfl rfl rfl (Nat.le_of_ble_eq_true rfl) (rR hd (Nat.le_of_ble_eq_true rfl)) ⟨Nat.zero_le _, Nat.zero_le _⟩ dX13_readCommand_175 (fun r29 M28 h => ?_)
    refine ra_goto (tgt := 182) E dX13_readCommand_178 (by decide) ?_
    obtain ⟨g30, h⟩ := h
    refine ra_iast E (lmM (by decide)) (cel_708 tc ad) g30 dX13_readCommand_182 ?_
    replace h := h _ rfl
    refine ra_aload_n E dX13_readCommand_183 rfl 0 rfl ?_
    refine ra_bipush E dX13_readCommand_184 kb_59 ?_
    refine ra_callVV (rest := []) E (c_X13_expect _ _ _ h) lq_13 cv_X13_expect ml_X13_372 (by decide) (lmM (by decide)) (fun R => ⟨_, cel_699 tc ad R⟩) rfl rfl rfl (Nat.le_of_ble_eq_true rfl) (rR hd (Nat.le_of_ble_eq_true rfl)) ⟨Nat.zero_le _, Nat.zero_le _⟩ dX13_readCommand_186 (fun M32 h => ?_)
    exact ra_vret E hr dX13_readCommand_189 h
def f_X13_readCommand_L53 (fc : Int32 → Int32 → TM → (TM → Prop) → Prop) (p1 : Int32) (K : TM → Prop) (x1 : Int32) (x2 : Int32) (z0 : Int32) (M : TM) : Prop := f_X13_check z0 (4 : Int32) M (fun M6 => f_X13_advance M6 (fun M7 => (((M7 699 20) = 0 → vp_in ((5 : Int32) * (M7 699 26)) 100 ∧ ∀ M10, M10 = u2 M7 708 ((5 : Int32) * (M7 699 26)).toNatClampNeg x2 → ∀ M11, M11 = u2 M10 699 26 ((M10 699 26) + (1 : Int32)) → ((¬ x2 = (8 : Int32) → f_X13_readFirst x2 M11 (fun r14 M13 => vp_in (((5 : Int32) * (M7 699 26)) + (1 : Int32)) 100 ∧ ∀ M16, M16 = u2 M13 708 (((5 : Int32) * (M7 699 26)) + (1 : Int32)).toNatClampNeg r14 → f_X13_readSecond x2 M16 (fun r18 M17 => vp_in (((5 : Int32) * (M7 699 26)) + (2 : Int32)) 100 ∧ ∀ M20, M20 = u2 M17 708 (((5 : Int32) * (M7 699 26)) + (2 : Int32)).toNatClampNeg r18 → ((¬ x2 = (1 : Int32) → f_X13_readCommand_L157 fc p1 K x2 ((5 : Int32) * (M7 699 26)) (0 : Int32) (((5 : Int32) * (M7 699 26)) + (3 : Int32)) M20) ∧ (x2 = (1 : Int32) → f_X13_readNumber (1 : Int32) (6 : Int32) M20 (fun r34 M33 => f_X13_readCommand_L157 fc p1 K x2 ((5 : Int32) * (M7 699 26)) r34 (((5 : Int32) * (M7 699 26)) + (3 : Int32)) M33)))))) ∧ (x2 = (8 : Int32) → fc ((5 : Int32) * (M7 699 26)) x1 M11 (fun M35 => f_X13_expect (59 : Int32) M35 (fun M36 => K M36))))) ∧ (¬ (M7 699 20) = 0 → K M7))))
set_option maxRecDepth 100000 in
set_option maxHeartbeats 4000000 in
theorem l_X13_readCommand_L53 {p : Program} {l : Launch} {e : Env} {s : State} {m : MethodId} {args : Array Value} {below : List Frame} {meth : Method} {c : Code} {D : va_G} {tc : Nat → ClassId} {ad : Nat → Nat} (fc : Int32 → Int32 → TM → (TM → Prop) → Prop) (dd : Nat) (hd : 5 ≤ dd) (hfc : ∀ (p1 : Int32) (p2 : Int32) (M : TM) (K : TM → Prop), fc p1 p2 M K → MV yX13_readRepeat cX13_readRepeat 3 dd ad [.ref (ad 699), .int p1, .int p2] M K) (p1 : Int32) {K : TM → Prop} (E : Ev p s m args meth c D tc ad RX13 cX13_readCommand 4) (hr : meth.sig.returnType = none) : ∀ (x1 : Int32) (x2 : Int32) (z0 : Int32) (M : TM) , f_X13_readCommand_L53 fc p1 K x1 x2 z0 M → Wa p l e (rmD (dd + 1)) s m args below meth c 0 0 (MQ below (va_Qv K (EndW D tc ad) (A0 ad s.heap.size)) args s 0 0 (A0 ad s.heap.size)) D tc ad 4 M 53 [(0, .ref (ad 699)), (1, .int x1), (2, .int x2)] [.int z0, .ref (ad 699)] := by
  intro x1 x2 z0 M  h
  unfold f_X13_readCommand_L53 at h
  refine ra_iconst E dX13_readCommand_53 ki_4 ?_
  refine ra_callVV (rest := []) E (c_X13_check _ _ _ _ h) lq_13 cv_X13_check ml_X13_349 (by decide) (lmM (by decide)) (fun R => ⟨_, cel_699 tc ad R⟩) rfl rfl rfl (Nat.le_of_ble_eq_true rfl) (rR hd (Nat.le_of_ble_eq_true rfl)) ⟨Nat.zero_le _, Nat.zero_le _⟩ dX13_readCommand_54 (fun M6 h => ?_)
  refine ra_aload_n E dX13_readCommand_57 rfl 0 rfl ?_
  refine ra_callVV (rest := []) E (c_X13_advance _ _ h) lq_13 cv_X13_advance ml_X13_353 (by decide) (lmM (by decide)) (fun R => ⟨_, cel_699 tc ad R⟩) rfl rfl rfl (Nat.le_of_ble_eq_true rfl) (rR hd (Nat.le_of_ble_eq_true rfl)) ⟨Nat.zero_le _, Nat.zero_le _⟩ dX13_readCommand_58 (fun M7 h => ?_)
  refine ra_aload_n E dX13_readCommand_61 rfl 0 rfl ?_
  refine gf_X13_20 E lm13 fl_X13_323 dX13_readCommand_62 ?_
  refine ra_if_eq (tgt := 69) E dX13_readCommand_65 (by decide) (fun q8 => ?_) (fun q8 => ?_)
  · replace h := h.1 q8
    refine ra_iconst E dX13_readCommand_69 ki_5 ?_
    refine ra_aload_n E dX13_readCommand_70 rfl 0 rfl ?_
    refine gf_X13_26 E lm13 fl_X13_408 dX13_readCommand_71 ?_
    refine ra_imul E dX13_readCommand_74 ?_
    refine ra_istore_n (L' := [(3, _), (0, _), (1, _), (2, _)]) E dX13_readCommand_75 rfl (by decide) rfl ?_
    refine ra_aload_n E dX13_readCommand_76 rfl 1 rfl ?_
    refine gf_X13_24 E lm13 fl_X13_41 dX13_readCommand_77 ?_
    refine ra_iload_n E dX13_readCommand_80 rfl 0 rfl ?_
    refine ra_iload_n E dX13_readCommand_81 rfl 3 rfl ?_
    obtain ⟨g9, h⟩ := h
    refine ra_iast E (lmM (by decide)) (cel_708 tc ad) g9 dX13_readCommand_82 ?_
    replace h := h _ rfl
    refine ra_aload_n E dX13_readCommand_83 rfl 1 rfl ?_
    refine ra_dup E dX13_readCommand_84 rfl ?_
    refine gf_X13_26 E lm13 fl_X13_408 dX13_readCommand_85 ?_
    refine ra_iconst E dX13_readCommand_88 ki_1 ?_
    refine ra_iadd E dX13_readCommand_89 ?_
    refine pf_X13_26 E lm13 fl_X13_408 dX13_readCommand_90 ?_
    replace h := h _ rfl
    refine ra_iload_n E dX13_readCommand_93 rfl 3 rfl ?_
    refine ra_bipush E dX13_readCommand_94 kb_8 ?_
    refine ra_icmp_ne (tgt := 108) E dX13_readCommand_96 (by decide) (fun q12 => ?_) (fun q12 => ?_)
    · replace h := h.1 q12
      refine ra_aload_n E dX13_readCommand_108 rfl 1 rfl ?_
      refine gf_X13_24 E lm13 fl_X13_41 dX13_readCommand_109 ?_
      refine ra_iload_n E dX13_readCommand_112 rfl 0 rfl ?_
      refine ra_iconst E dX13_readCommand_113 ki_1 ?_
      refine ra_iadd E dX13_readCommand_114 ?_
      refine ra_aload_n E dX13_readCommand_115 rfl 1 rfl ?_
      refine ra_iload_n E dX13_readCommand_116 rfl 3 rfl ?_
      refine ra_callIV (rest := [_, _]) E (c_X13_readFirst _ _ _ h) lq_13 cv_X13_readFirst ml_X13_417 (by decide) (lmM (by decide)) (fun R => ⟨_, cel_699 tc ad R⟩) rfl rfl rfl (Nat.le_of_ble_eq_true rfl) (rR hd (Nat.le_of_ble_eq_true rfl)) ⟨Nat.zero_le _, Nat.zero_le _⟩ dX13_readCommand_117 (fun r14 M13 h => ?_)
      obtain ⟨g15, h⟩ := h
      refine ra_iast E (lmM (by decide)) (cel_708 tc ad) g15 dX13_readCommand_120 ?_
      replace h := h _ rfl
      refine ra_aload_n E dX13_readCommand_121 rfl 1 rfl ?_
      refine gf_X13_24 E lm13 fl_X13_41 dX13_readCommand_122 ?_
      refine ra_iload_n E dX13_readCommand_125 rfl 0 rfl ?_
      refine ra_iconst E dX13_readCommand_126 ki_2 ?_
      refine ra_iadd E dX13_readCommand_127 ?_
      refine ra_aload_n E dX13_readCommand_128 rfl 1 rfl ?_
      refine ra_iload_n E dX13_readCommand_129 rfl 3 rfl ?_
      refine ra_callIV (rest := [_, _]) E (c_X13_readSecond _ _ _ h) lq_13 cv_X13_readSecond ml_X13_420 (by decide) (lmM (by decide)) (fun R => ⟨_, cel_699 tc ad R⟩) rfl rfl rfl (Nat.le_of_ble_eq_true rfl) (rR hd (Nat.le_of_ble_eq_true rfl)) ⟨Nat.zero_le _, Nat.zero_le _⟩ dX13_readCommand_130 (fun r18 M17 h => ?_)
      obtain ⟨g19, h⟩ := h
      refine ra_iast E (lmM (by decide)) (cel_708 tc ad) g19 dX13_readCommand_133 ?_
      replace h := h _ rfl
      refine ra_aload_n E dX13_readCommand_134 rfl 1 rfl ?_
      refine gf_X13_24 E lm13 fl_X13_41 dX13_readCommand_135 ?_
      refine ra_iload_n E dX13_readCommand_138 rfl 0 rfl ?_
      refine ra_iconst E dX13_readCommand_139 ki_3 ?_
      refine ra_iadd E dX13_readCommand_140 ?_
      refine ra_iload_n E dX13_readCommand_141 rfl 3 rfl ?_
      refine ra_iconst E dX13_readCommand_142 ki_1 ?_
      refine ra_icmp_ne (tgt := 156) E dX13_readCommand_143 (by decide) (fun q21 => ?_) (fun q21 => ?_)
      · replace h := h.1 q21
        refine ra_iconst E dX13_readCommand_156 ki_0 ?_
        exact ra_sub (L' := [(0, _), (2, _), (3, _)]) [1, 3, 0] rfl (l_X13_readCommand_L157 fc dd hd hfc p1 E hr _ _ _ _ _ h)
      · replace h := h.2 q21
        refine ra_aload_n E dX13_readCommand_146 rfl 1 rfl ?_
        refine ra_iconst E dX13_readCommand_147 ki_1 ?_
        refine ra_bipush E dX13_readCommand_148 kb_6 ?_
        refine ra_callIV (rest := [_, _]) E (c_X13_readNumber _ _ _ _ h) lq_13 cv_X13_readNumber ml_X13_369 (by decide) (lmM (by decide)) (fun R => ⟨_, cel_699 tc ad R⟩) rfl rfl rfl (Nat.le_of_ble_eq_true rfl) (rR hd (Nat.le_of_ble_eq_true rfl)) ⟨Nat.zero_le _, Nat.zero_le _⟩ dX13_readCommand_150 (fun r34 M33 h => ?_)
        refine ra_goto (tgt := 157) E dX13_readCommand_153 (by decide) ?_
        exact ra_sub (L' := [(0, _), (2, _), (3, _)]) [1, 3, 0] rfl (l_X13_readCommand_L157 fc dd hd hfc p1 E hr _ _ _ _ _ h)
    · replace h := h.2 q12
      refine ra_aload_n E dX13_readCommand_99 rfl 1 rfl ?_
      refine ra_iload_n E dX13_readCommand_100 rfl 0 rfl ?_
      refine ra_iload_n E dX13_readCommand_101 rfl 2 rfl ?_
      refine ra_callVV (rest := []) E (hfc _ _ _ _ h) lq_13 cv_X13_readRepeat ml_X13_414 (by decide) (lmM (by decide)) (fun R => ⟨_, cel_699 tc ad R⟩) rfl rfl rfl (Nat.le_of_ble_eq_true rfl) ⟨Nat.le_refl _, Nat.le_refl _⟩ ⟨Nat.zero_le _, Nat.zero_le _⟩ dX13_readCommand_102 (fun M35 h => ?_)
      refine ra_goto (tgt := 183) E dX13_readCommand_105 (by decide) ?_
      refine ra_aload_n E dX13_readCommand_183 rfl 1 rfl ?_
      refine ra_bipush E dX13_readCommand_184 kb_59 ?_
      refine ra_callVV (rest := []) E (c_X13_expect _ _ _ h) lq_13 cv_X13_expect ml_X13_372 (by decide) (lmM (by decide)) (fun R => ⟨_, cel_699 tc ad R⟩) rfl rfl rfl (Nat.le_of_ble_eq_true rfl) (rR hd (Nat.le_of_ble_eq_true rfl)) ⟨Nat.zero_le _, Nat.zero_le _⟩ dX13_readCommand_186 (fun M36 h => ?_)
      exact ra_vret E hr dX13_readCommand_189 h
  · replace h := h.2 q8
    exact ra_vret E hr dX13_readCommand_68 h
def f_X13_readCommand_L48 (fc : Int32 → Int32 → TM → (TM → Prop) → Prop) (p1 : Int32) (K : TM → Prop) (x1 : Int32) (x2 : Int32) (M : TM) : Prop := f_X13_readCommand_L53 fc p1 K x1 x2 (1 : Int32) M
set_option maxRecDepth 100000 in
set_option maxHeartbeats 4000000 in
theorem l_X13_readCommand_L48 {p : Program} {l : Launch} {e : Env} {s : State} {m : MethodId} {args : Array Value} {below : List Frame} {meth : Method} {c : Code} {D : va_G} {tc : Nat → ClassId} {ad : Nat → Nat} (fc : Int32 → Int32 → TM → (TM → Prop) → Prop) (dd : Nat) (hd : 5 ≤ dd) (hfc : ∀ (p1 : Int32) (p2 : Int32) (M : TM) (K : TM → Prop), fc p1 p2 M K → MV yX13_readRepeat cX13_readRepeat 3 dd ad [.ref (ad 699), .int p1, .int p2] M K) (p1 : Int32) {K : TM → Prop} (E : Ev p s m args meth c D tc ad RX13 cX13_readCommand 4) (hr : meth.sig.returnType = none) : ∀ (x1 : Int32) (x2 : Int32) (M : TM) , f_X13_readCommand_L48 fc p1 K x1 x2 M → Wa p l e (rmD (dd + 1)) s m args below meth c 0 0 (MQ below (va_Qv K (EndW D tc ad) (A0 ad s.heap.size)) args s 0 0 (A0 ad s.heap.size)) D tc ad 4 M 48 [(0, .ref (ad 699)), (1, .int x1), (2, .int x2)] [.ref (ad 699)] := by
  intro x1 x2 M  h
  unfold f_X13_readCommand_L48 at h
  refine ra_iconst E dX13_readCommand_48 ki_1 ?_
  refine ra_goto (tgt := 53) E dX13_readCommand_49 (by decide) ?_
  exact ra_sub (L' := [(0, _), (1, _), (2, _)]) [0, 1, 2] rfl (l_X13_readCommand_L53 fc dd hd hfc p1 E hr _ _ _ _ h)
def f_X13_readCommand_L52 (fc : Int32 → Int32 → TM → (TM → Prop) → Prop) (p1 : Int32) (K : TM → Prop) (x1 : Int32) (x2 : Int32) (M : TM) : Prop := f_X13_readCommand_L53 fc p1 K x1 x2 (0 : Int32) M
set_option maxRecDepth 100000 in
set_option maxHeartbeats 4000000 in
theorem l_X13_readCommand_L52 {p : Program} {l : Launch} {e : Env} {s : State} {m : MethodId} {args : Array Value} {below : List Frame} {meth : Method} {c : Code} {D : va_G} {tc : Nat → ClassId} {ad : Nat → Nat} (fc : Int32 → Int32 → TM → (TM → Prop) → Prop) (dd : Nat) (hd : 5 ≤ dd) (hfc : ∀ (p1 : Int32) (p2 : Int32) (M : TM) (K : TM → Prop), fc p1 p2 M K → MV yX13_readRepeat cX13_readRepeat 3 dd ad [.ref (ad 699), .int p1, .int p2] M K) (p1 : Int32) {K : TM → Prop} (E : Ev p s m args meth c D tc ad RX13 cX13_readCommand 4) (hr : meth.sig.returnType = none) : ∀ (x1 : Int32) (x2 : Int32) (M : TM) , f_X13_readCommand_L52 fc p1 K x1 x2 M → Wa p l e (rmD (dd + 1)) s m args below meth c 0 0 (MQ below (va_Qv K (EndW D tc ad) (A0 ad s.heap.size)) args s 0 0 (A0 ad s.heap.size)) D tc ad 4 M 52 [(0, .ref (ad 699)), (1, .int x1), (2, .int x2)] [.ref (ad 699)] := by
  intro x1 x2 M  h
  unfold f_X13_readCommand_L52 at h
  refine ra_iconst E dX13_readCommand_52 ki_0 ?_
  exact ra_sub (L' := [(0, _), (1, _), (2, _)]) [0, 1, 2] rfl (l_X13_readCommand_L53 fc dd hd hfc p1 E hr _ _ _ _ h)
def f_X13_readCommand_L16 (fc : Int32 → Int32 → TM → (TM → Prop) → Prop) (p1 : Int32) (K : TM → Prop) (x1 : Int32) (x2 : Int32) (z0 : Int32) (M : TM) : Prop := f_X13_check z0 (1 : Int32) M (fun M4 => ((¬ (M4 699 20) = 0 → f_X13_readCommand_L48 fc p1 K x1 x2 M4) ∧ ((M4 699 20) = 0 → (((20 : Int32) ≤ (M4 699 26) → f_X13_readCommand_L52 fc p1 K x1 x2 M4) ∧ (¬ (20 : Int32) ≤ (M4 699 26) → ((¬ x2 = (8 : Int32) → f_X13_readCommand_L48 fc p1 K x1 x2 M4) ∧ (x2 = (8 : Int32) → (((2 : Int32) ≤ x1 → f_X13_readCommand_L52 fc p1 K x1 x2 M4) ∧ (¬ (2 : Int32) ≤ x1 → f_X13_readCommand_L48 fc p1 K x1 x2 M4)))))))))
set_option maxRecDepth 100000 in
set_option maxHeartbeats 4000000 in
theorem l_X13_readCommand_L16 {p : Program} {l : Launch} {e : Env} {s : State} {m : MethodId} {args : Array Value} {below : List Frame} {meth : Method} {c : Code} {D : va_G} {tc : Nat → ClassId} {ad : Nat → Nat} (fc : Int32 → Int32 → TM → (TM → Prop) → Prop) (dd : Nat) (hd : 5 ≤ dd) (hfc : ∀ (p1 : Int32) (p2 : Int32) (M : TM) (K : TM → Prop), fc p1 p2 M K → MV yX13_readRepeat cX13_readRepeat 3 dd ad [.ref (ad 699), .int p1, .int p2] M K) (p1 : Int32) {K : TM → Prop} (E : Ev p s m args meth c D tc ad RX13 cX13_readCommand 4) (hr : meth.sig.returnType = none) : ∀ (x1 : Int32) (x2 : Int32) (z0 : Int32) (M : TM) , f_X13_readCommand_L16 fc p1 K x1 x2 z0 M → Wa p l e (rmD (dd + 1)) s m args below meth c 0 0 (MQ below (va_Qv K (EndW D tc ad) (A0 ad s.heap.size)) args s 0 0 (A0 ad s.heap.size)) D tc ad 4 M 16 [(0, .ref (ad 699)), (1, .int x1), (2, .int x2)] [.int z0, .ref (ad 699)] := by
  intro x1 x2 z0 M  h
  unfold f_X13_readCommand_L16 at h
  refine ra_iconst E dX13_readCommand_16 ki_1 ?_
  refine ra_callVV (rest := []) E (c_X13_check _ _ _ _ h) lq_13 cv_X13_check ml_X13_349 (by decide) (lmM (by decide)) (fun R => ⟨_, cel_699 tc ad R⟩) rfl rfl rfl (Nat.le_of_ble_eq_true rfl) (rR hd (Nat.le_of_ble_eq_true rfl)) ⟨Nat.zero_le _, Nat.zero_le _⟩ dX13_readCommand_17 (fun M4 h => ?_)
  refine ra_aload_n E dX13_readCommand_20 rfl 0 rfl ?_
  refine ra_aload_n E dX13_readCommand_21 rfl 0 rfl ?_
  refine gf_X13_20 E lm13 fl_X13_323 dX13_readCommand_22 ?_
  refine ra_if_ne (tgt := 48) E dX13_readCommand_25 (by decide) (fun q5 => ?_) (fun q5 => ?_)
  · replace h := h.1 q5
    exact ra_sub (L' := [(0, _), (1, _), (2, _)]) [0, 1, 2] rfl (l_X13_readCommand_L48 fc dd hd hfc p1 E hr _ _ _ h)
  · replace h := h.2 q5
    refine ra_aload_n E dX13_readCommand_28 rfl 0 rfl ?_
    refine gf_X13_26 E lm13 fl_X13_408 dX13_readCommand_29 ?_
    refine ra_bipush E dX13_readCommand_32 kb_20 ?_
    refine ra_icmp_ge (tgt := 52) E dX13_readCommand_34 (by decide) (fun q37 => ?_) (fun q37 => ?_)
    · replace h := h.1 q37
      exact ra_sub (L' := [(0, _), (1, _), (2, _)]) [0, 1, 2] rfl (l_X13_readCommand_L52 fc dd hd hfc p1 E hr _ _ _ h)
    · replace h := h.2 q37
      refine ra_iload_n E dX13_readCommand_37 rfl 2 rfl ?_
      refine ra_bipush E dX13_readCommand_38 kb_8 ?_
      refine ra_icmp_ne (tgt := 48) E dX13_readCommand_40 (by decide) (fun q38 => ?_) (fun q38 => ?_)
      · replace h := h.1 q38
        exact ra_sub (L' := [(0, _), (1, _), (2, _)]) [0, 1, 2] rfl (l_X13_readCommand_L48 fc dd hd hfc p1 E hr _ _ _ h)
      · replace h := h.2 q38
        refine ra_iload_n E dX13_readCommand_43 rfl 1 rfl ?_
        refine ra_iconst E dX13_readCommand_44 ki_2 ?_
        refine ra_icmp_ge (tgt := 52) E dX13_readCommand_45 (by decide) (fun q39 => ?_) (fun q39 => ?_)
        · replace h := h.1 q39
          exact ra_sub (L' := [(0, _), (1, _), (2, _)]) [0, 1, 2] rfl (l_X13_readCommand_L52 fc dd hd hfc p1 E hr _ _ _ h)
        · replace h := h.2 q39
          exact ra_sub (L' := [(0, _), (1, _), (2, _)]) [0, 1, 2] rfl (l_X13_readCommand_L48 fc dd hd hfc p1 E hr _ _ _ h)
def f_X13_readCommand (fc : Int32 → Int32 → TM → (TM → Prop) → Prop) (p1 : Int32) (M : TM) (K : TM → Prop) : Prop := f_X13_commandHere M (fun r2 M1 => ((r2 = (-1 : Int32) → f_X13_readCommand_L16 fc p1 K p1 r2 (0 : Int32) M1) ∧ (¬ r2 = (-1 : Int32) → f_X13_readCommand_L16 fc p1 K p1 r2 (1 : Int32) M1)))
set_option maxRecDepth 100000 in
set_option maxHeartbeats 4000000 in
theorem c_X13_readCommand {ad : Nat → Nat} (fc : Int32 → Int32 → TM → (TM → Prop) → Prop) (dd : Nat) (hd : 5 ≤ dd) (hfc : ∀ (p1 : Int32) (p2 : Int32) (M : TM) (K : TM → Prop), fc p1 p2 M K → MV yX13_readRepeat cX13_readRepeat 3 dd ad [.ref (ad 699), .int p1, .int p2] M K) (p1 : Int32) (M : TM) (K : TM → Prop) (h : f_X13_readCommand fc p1 M K) : MV yX13_readCommand cX13_readCommand 4 (dd + 1) ad [.ref (ad 699), .int p1] M K := by
  refine MV_of RX13 rfl (by decide +kernel) (Nat.le_of_ble_eq_true rfl) (fun p l e s m below meth c D tc E hr => ?_)
  unfold f_X13_readCommand at h
  refine ra_aload_n E dX13_readCommand_0 rfl 0 rfl ?_
  refine ra_callIV (rest := []) E (c_X13_commandHere _ _ h) lq_13 cv_X13_commandHere ml_X13_411 (by decide) (lmM (by decide)) (fun R => ⟨_, cel_699 tc ad R⟩) rfl rfl rfl (Nat.le_of_ble_eq_true rfl) (rR hd (Nat.le_of_ble_eq_true rfl)) ⟨Nat.zero_le _, Nat.zero_le _⟩ dX13_readCommand_1 (fun r2 M1 h => ?_)
  refine ra_istore_n (L' := [(2, _), (0, _), (1, _)]) E dX13_readCommand_4 rfl (by decide) rfl ?_
  refine ra_aload_n E dX13_readCommand_5 rfl 1 rfl ?_
  refine ra_iload_n E dX13_readCommand_6 rfl 0 rfl ?_
  refine ra_iconst E dX13_readCommand_7 ki_m1 ?_
  refine ra_icmp_eq (tgt := 15) E dX13_readCommand_8 (by decide) (fun q3 => ?_) (fun q3 => ?_)
  · replace h := h.1 q3
    refine ra_iconst E dX13_readCommand_15 ki_0 ?_
    exact ra_sub (L' := [(0, _), (1, _), (2, _)]) [1, 2, 0] rfl (l_X13_readCommand_L16 fc dd hd hfc p1 E hr _ _ _ _ h)
  · replace h := h.2 q3
    refine ra_iconst E dX13_readCommand_11 ki_1 ?_
    refine ra_goto (tgt := 16) E dX13_readCommand_12 (by decide) ?_
    exact ra_sub (L' := [(0, _), (1, _), (2, _)]) [1, 2, 0] rfl (l_X13_readCommand_L16 fc dd hd hfc p1 E hr _ _ _ _ h)
def f_X13_readCommandR : Nat → Int32 → TM → (TM → Prop) → Prop
  | 0 => fun _ _ _ => False
  | k + 1 => fun p1 M K => f_X13_readCommand (fun p1 p2 M K => f_X13_readRepeat (f_X13_readCommandR k) p1 p2 M K) p1 M K
theorem c_X13_readCommandR {ad : Nat → Nat} : ∀ (k : Nat) (p1 : Int32) (M : TM) (K : TM → Prop), f_X13_readCommandR k p1 M K → MV yX13_readCommand cX13_readCommand 4 (5 + 2 * k) ad [.ref (ad 699), .int p1] M K := by
  intro k
  induction k with
  | zero => intro p1 M K h; exact h.elim
  | succ k ih => intro p1 M K h; exact c_X13_readCommand (fun p1 p2 M K => f_X13_readRepeat (f_X13_readCommandR k) p1 p2 M K) (5 + 2 * k + 1) (by omega) (fun p1 p2 M K h => c_X13_readRepeat (f_X13_readCommandR k) (5 + 2 * k) (by omega) ih p1 p2 M K h) p1 M K h
def f_X13_readRepeatC (p1 : Int32) (p2 : Int32) (M : TM) (K : TM → Prop) : Prop := f_X13_readRepeat (f_X13_readCommandR 3) p1 p2 M K
theorem c_X13_readRepeatC {ad : Nat → Nat} (p1 : Int32) (p2 : Int32) (M : TM) (K : TM → Prop) (h : f_X13_readRepeatC p1 p2 M K) : MV yX13_readRepeat cX13_readRepeat 3 12 ad [.ref (ad 699), .int p1, .int p2] M K := c_X13_readRepeat (f_X13_readCommandR 3) 11 (by omega) (c_X13_readCommandR 3) p1 p2 M K h
def f_X13_readCommandC (p1 : Int32) (M : TM) (K : TM → Prop) : Prop := f_X13_readCommandR 3 p1 M K
theorem c_X13_readCommandC {ad : Nat → Nat} (p1 : Int32) (M : TM) (K : TM → Prop) (h : f_X13_readCommandC p1 M K) : MV yX13_readCommand cX13_readCommand 4 11 ad [.ref (ad 699), .int p1] M K := c_X13_readCommandR 3 p1 M K h
def f_X2_passAtMost_L2 (a0 : Nat) (p1 : Int32) (K : TM → Prop) : Nat → Int32 → Int32 → TM → Prop
  | 0, _, _, _ => False
  | n + 1, x1, x2, M => ((x1 ≤ x2 → K M) ∧ (¬ x1 ≤ x2 → f_X2_canPass a0 (1 : Int32) M (fun r3 M2 => ((r3 = 0 → K M2) ∧ (¬ r3 = 0 → f_X2_moveBarges a0 M2 (fun M6 => f_X2_pullNoodles a0 M6 (fun M7 => f_X2_serveOrders a0 M7 (fun M8 => f_X2_expireOrders a0 M8 (fun M9 => ∀ M10, M10 = u2 M9 a0 8 ((M9 a0 8) + (1 : Int32)) → f_X2_passAtMost_L2 a0 p1 K n x1 (x2 + 1) M10)))))))))
set_option maxRecDepth 100000 in
set_option maxHeartbeats 4000000 in
theorem l_X2_passAtMost_L2 {p : Program} {l : Launch} {e : Env} {s : State} {m : MethodId} {args : Array Value} {below : List Frame} {meth : Method} {c : Code} {D : va_G} {tc : Nat → ClassId} {ad : Nat → Nat} (a0 : Nat) (h0 : IsCanal a0) (p1 : Int32) {K : TM → Prop} (E : Ev p s m args meth c D tc ad RX2 cX2_passAtMost 3) (hr : meth.sig.returnType = none) : ∀ (n : Nat) (x1 : Int32) (x2 : Int32) (M : TM) , f_X2_passAtMost_L2 a0 p1 K n x1 x2 M → Wa p l e (rmD 3) s m args below meth c 0 0 (MQ below (va_Qv K (EndW D tc ad) (A0 ad s.heap.size)) args s 0 0 (A0 ad s.heap.size)) D tc ad 3 M 2 [(0, .ref (ad a0)), (1, .int x1), (2, .int x2)] [] := by
  intro n
  induction n with
  | zero => intro x1 x2 M  h; exact h.elim
  | succ n ih =>
    intro x1 x2 M  h
    unfold f_X2_passAtMost_L2 at h
    refine ra_iload_n E dX2_passAtMost_2 rfl 2 rfl ?_
    refine ra_iload_n E dX2_passAtMost_3 rfl 1 rfl ?_
    refine ra_icmp_ge (tgt := 47) E dX2_passAtMost_4 (by decide) (fun q1 => ?_) (fun q1 => ?_)
    · replace h := h.1 q1
      exact ra_vret E hr dX2_passAtMost_47 h
    · replace h := h.2 q1
      refine ra_aload_n E dX2_passAtMost_7 rfl 0 rfl ?_
      refine ra_iconst E dX2_passAtMost_8 ki_1 ?_
      refine ra_callIV (rest := []) E (c_X2_canPass _ h0 _ _ _ h) (lq_X2 _) cv_X2_canPass ml_X2_225 (by decide) (lm (h0.add (j := 0) (by decide))) (fun R => ⟨_, cel_canal tc ad h0 R⟩) rfl rfl rfl (Nat.le_of_ble_eq_true rfl) ⟨Nat.le_of_ble_eq_true rfl, Nat.le_of_ble_eq_true rfl⟩ ⟨Nat.zero_le _, Nat.zero_le _⟩ dX2_passAtMost_9 (fun r3 M2 h => ?_)
      obtain ⟨b4, h⟩ := h
      refine ra_if_eq (tgt := 47) E dX2_passAtMost_12 (by decide) (fun q5 => ?_) (fun q5 => ?_)
      · replace h := h.1 q5
        exact ra_vret E hr dX2_passAtMost_47 h
      · replace h := h.2 q5
        refine ra_aload_n E dX2_passAtMost_15 rfl 0 rfl ?_
        refine ra_callVV (rest := []) E (c_X2_moveBarges _ h0 _ _ h) (lq_X2 _) cv_X2_moveBarges ml_X2_228 (by decide) (lm (h0.add (j := 0) (by decide))) (fun R => ⟨_, cel_canal tc ad h0 R⟩) rfl rfl rfl (Nat.le_of_ble_eq_true rfl) ⟨Nat.le_of_ble_eq_true rfl, Nat.le_of_ble_eq_true rfl⟩ ⟨Nat.zero_le _, Nat.zero_le _⟩ dX2_passAtMost_16 (fun M6 h => ?_)
        refine ra_aload_n E dX2_passAtMost_19 rfl 0 rfl ?_
        refine ra_callVV (rest := []) E (c_X2_pullNoodles _ h0 _ _ h) (lq_X2 _) cv_X2_pullNoodles ml_X2_231 (by decide) (lm (h0.add (j := 0) (by decide))) (fun R => ⟨_, cel_canal tc ad h0 R⟩) rfl rfl rfl (Nat.le_of_ble_eq_true rfl) ⟨Nat.le_of_ble_eq_true rfl, Nat.le_of_ble_eq_true rfl⟩ ⟨Nat.zero_le _, Nat.zero_le _⟩ dX2_passAtMost_20 (fun M7 h => ?_)
        refine ra_aload_n E dX2_passAtMost_23 rfl 0 rfl ?_
        refine ra_callVV (rest := []) E (c_X2_serveOrders _ h0 _ _ h) (lq_X2 _) cv_X2_serveOrders ml_X2_234 (by decide) (lm (h0.add (j := 0) (by decide))) (fun R => ⟨_, cel_canal tc ad h0 R⟩) rfl rfl rfl (Nat.le_of_ble_eq_true rfl) ⟨Nat.le_of_ble_eq_true rfl, Nat.le_of_ble_eq_true rfl⟩ ⟨Nat.zero_le _, Nat.zero_le _⟩ dX2_passAtMost_24 (fun M8 h => ?_)
        refine ra_aload_n E dX2_passAtMost_27 rfl 0 rfl ?_
        refine ra_callVV (rest := []) E (c_X2_expireOrders _ h0 _ _ h) (lq_X2 _) cv_X2_expireOrders ml_X2_237 (by decide) (lm (h0.add (j := 0) (by decide))) (fun R => ⟨_, cel_canal tc ad h0 R⟩) rfl rfl rfl (Nat.le_of_ble_eq_true rfl) ⟨Nat.le_of_ble_eq_true rfl, Nat.le_of_ble_eq_true rfl⟩ ⟨Nat.zero_le _, Nat.zero_le _⟩ dX2_passAtMost_28 (fun M9 h => ?_)
        refine ra_aload_n E dX2_passAtMost_31 rfl 0 rfl ?_
        refine ra_dup E dX2_passAtMost_32 rfl ?_
        refine gf_X2_8 E h0 fl_X2_46 dX2_passAtMost_33 ?_
        refine ra_iconst E dX2_passAtMost_36 ki_1 ?_
        refine ra_iadd E dX2_passAtMost_37 ?_
        refine pf_X2_8 E h0 fl_X2_46 dX2_passAtMost_38 ?_
        replace h := h _ rfl
        refine ra_iinc1 (L' := [(2, _), (0, _), (1, _)]) E dX2_passAtMost_41 2 rfl (by decide) rfl ?_
        refine ra_goto (tgt := 2) E dX2_passAtMost_44 (by decide) ?_
        exact ra_sub (L' := [(0, _), (1, _), (2, _)]) [1, 2, 0] rfl (ih _ _ _ h)
def f_X2_passAtMost (a0 : Nat) (p1 : Int32) (M : TM) (K : TM → Prop) : Prop := ∃ n, f_X2_passAtMost_L2 a0 p1 K n p1 (0 : Int32) M
set_option maxRecDepth 100000 in
set_option maxHeartbeats 4000000 in
theorem c_X2_passAtMost {ad : Nat → Nat} (a0 : Nat) (h0 : IsCanal a0) (p1 : Int32) (M : TM) (K : TM → Prop) (h : f_X2_passAtMost a0 p1 M K) : MV yX2_passAtMost cX2_passAtMost 3 3 ad [.ref (ad a0), .int p1] M K := by
  refine MV_of RX2 rfl (by decide +kernel) (Nat.le_of_ble_eq_true rfl) (fun p l e s m below meth c D tc E hr => ?_)
  unfold f_X2_passAtMost at h
  refine ra_iconst E dX2_passAtMost_0 ki_0 ?_
  refine ra_istore_n (L' := [(2, _), (0, _), (1, _)]) E dX2_passAtMost_1 rfl (by decide) rfl ?_
  obtain ⟨n11, h⟩ := h
  exact ra_sub (L' := [(0, _), (1, _), (2, _)]) [1, 2, 0] rfl (l_X2_passAtMost_L2 a0 h0 p1 E hr n11 _ _ _ h)
def f_X8_execute (a0 : Nat) (a1 : Nat) (M : TM) (K : TM → Prop) : Prop := vp_in (M a1 0) 9 ∧ vp_in (M a1 0) 9 ∧ ((((M a1 0) + 1) = 1 → f_X2_setTarget a0 (M a1 1) (M a1 2) M (fun M4 => K M4)) ∧ (((M a1 0) + 1) = 2 → f_X2_addOrder a0 (M a1 1) (M a1 2) (M a1 3) (M a1 4) M (fun M5 => K M5)) ∧ (((M a1 0) + 1) = 3 → f_X2_give a0 (M a1 1) (M a1 2) M (fun M6 => K M6)) ∧ (((M a1 0) + 1) = 4 → f_X2_reopen a0 (M a1 1) M (fun M7 => K M7)) ∧ (((M a1 0) + 1) = 5 → f_X2_loadFlour a0 (M a1 1) (M a1 2) M (fun M8 => K M8)) ∧ (((M a1 0) + 1) = 6 → f_X2_gather a0 (M a1 1) M (fun M9 => K M9)) ∧ (((M a1 0) + 1) = 7 → f_X2_clean a0 (M a1 1) M (fun M10 => K M10)) ∧ (((M a1 0) + 1) = 8 → f_X2_passAtMost a0 (M a1 1) M (fun M11 => K M11)) ∧ (¬ ((M a1 0) + 1) = 1 → ¬ ((M a1 0) + 1) = 2 → ¬ ((M a1 0) + 1) = 3 → ¬ ((M a1 0) + 1) = 4 → ¬ ((M a1 0) + 1) = 5 → ¬ ((M a1 0) + 1) = 6 → ¬ ((M a1 0) + 1) = 7 → ¬ ((M a1 0) + 1) = 8 → K M))
set_option maxRecDepth 100000 in
set_option maxHeartbeats 4000000 in
theorem c_X8_execute {ad : Nat → Nat} (a0 : Nat) (h0 : IsCanal a0) (a1 : Nat) (h1 : IsCmd a1) (M : TM) (K : TM → Prop) (h : f_X8_execute a0 a1 M K) : MV yX8_execute cX8_execute 2 4 ad [.ref (ad a0), .ref (ad a1)] M K := by
  refine MV_of RX8 rfl (by decide +kernel) (Nat.le_of_ble_eq_true rfl) (fun p l e s m below meth c D tc E hr => ?_)
  unfold f_X8_execute at h
  refine gs_smap E fl_X8_85 dX8_execute_0 ?_
  refine ra_aload_n E dX8_execute_3 rfl 1 rfl ?_
  refine gf_X4_0 E h1 fl_X8_63 dX8_execute_4 ?_
  obtain ⟨g1, h⟩ := h
  refine ra_ordinal E g1 ml_X8_91 (Nat.le_of_ble_eq_true rfl) ⟨Nat.le_of_ble_eq_true rfl, Nat.le_of_ble_eq_true rfl⟩ ⟨Nat.zero_le _, Nat.zero_le _⟩ dX8_execute_7 ?_
  obtain ⟨g2, h⟩ := h
  refine ia_smap E g2 dX8_execute_10 ?_
  by_cases q3_0 : ((M a1 0) + 1) = 1
  · replace h := h.1 q3_0
    refine ra_tableIn (tgt := 56) (off := 45) E dX8_execute_11 (by rw [q3_0]; decide) (by rw [q3_0]; decide) (by rw [q3_0]; decide) (by decide) ?_
    refine ra_aload_n E dX8_execute_56 rfl 0 rfl ?_
    refine ra_aload_n E dX8_execute_57 rfl 1 rfl ?_
    refine gf_X4_1 E h1 fl_X8_99 dX8_execute_58 ?_
    refine ra_aload_n E dX8_execute_61 rfl 1 rfl ?_
    refine gf_X4_2 E h1 fl_X8_102 dX8_execute_62 ?_
    refine ra_callVV (rest := []) E (c_X2_setTarget _ h0 _ _ _ _ h) (lq_X2 _) cv_X2_setTarget ml_X8_154 (by decide) (lm (h0.add (j := 0) (by decide))) (fun R => ⟨_, cel_canal tc ad h0 R⟩) rfl rfl rfl (Nat.le_of_ble_eq_true rfl) ⟨Nat.le_of_ble_eq_true rfl, Nat.le_of_ble_eq_true rfl⟩ ⟨Nat.zero_le _, Nat.zero_le _⟩ dX8_execute_65 (fun M12 h => ?_)
    refine ra_goto (tgt := 168) E dX8_execute_68 (by decide) ?_
    exact ra_vret E hr dX8_execute_168 h
  by_cases q3_1 : ((M a1 0) + 1) = 2
  · replace h := h.2.1 q3_1
    refine ra_tableIn (tgt := 71) (off := 60) E dX8_execute_11 (by rw [q3_1]; decide) (by rw [q3_1]; decide) (by rw [q3_1]; decide) (by decide) ?_
    refine ra_aload_n E dX8_execute_71 rfl 0 rfl ?_
    refine ra_aload_n E dX8_execute_72 rfl 1 rfl ?_
    refine gf_X4_1 E h1 fl_X8_99 dX8_execute_73 ?_
    refine ra_aload_n E dX8_execute_76 rfl 1 rfl ?_
    refine gf_X4_2 E h1 fl_X8_102 dX8_execute_77 ?_
    refine ra_aload_n E dX8_execute_80 rfl 1 rfl ?_
    refine gf_X4_3 E h1 fl_X8_105 dX8_execute_81 ?_
    refine ra_aload_n E dX8_execute_84 rfl 1 rfl ?_
    refine gf_X4_4 E h1 fl_X8_108 dX8_execute_85 ?_
    refine ra_callVV (rest := []) E (c_X2_addOrder _ h0 _ _ _ _ _ _ h) (lq_X2 _) cv_X2_addOrder ml_X8_158 (by decide) (lm (h0.add (j := 0) (by decide))) (fun R => ⟨_, cel_canal tc ad h0 R⟩) rfl rfl rfl (Nat.le_of_ble_eq_true rfl) ⟨Nat.le_of_ble_eq_true rfl, Nat.le_of_ble_eq_true rfl⟩ ⟨Nat.zero_le _, Nat.zero_le _⟩ dX8_execute_88 (fun M13 h => ?_)
    refine ra_goto (tgt := 168) E dX8_execute_91 (by decide) ?_
    exact ra_vret E hr dX8_execute_168 h
  by_cases q3_2 : ((M a1 0) + 1) = 3
  · replace h := h.2.2.1 q3_2
    refine ra_tableIn (tgt := 94) (off := 83) E dX8_execute_11 (by rw [q3_2]; decide) (by rw [q3_2]; decide) (by rw [q3_2]; decide) (by decide) ?_
    refine ra_aload_n E dX8_execute_94 rfl 0 rfl ?_
    refine ra_aload_n E dX8_execute_95 rfl 1 rfl ?_
    refine gf_X4_1 E h1 fl_X8_99 dX8_execute_96 ?_
    refine ra_aload_n E dX8_execute_99 rfl 1 rfl ?_
    refine gf_X4_2 E h1 fl_X8_102 dX8_execute_100 ?_
    refine ra_callVV (rest := []) E (c_X2_give _ h0 _ _ _ _ h) (lq_X2 _) cv_X2_give ml_X8_162 (by decide) (lm (h0.add (j := 0) (by decide))) (fun R => ⟨_, cel_canal tc ad h0 R⟩) rfl rfl rfl (Nat.le_of_ble_eq_true rfl) ⟨Nat.le_of_ble_eq_true rfl, Nat.le_of_ble_eq_true rfl⟩ ⟨Nat.zero_le _, Nat.zero_le _⟩ dX8_execute_103 (fun M14 h => ?_)
    refine ra_goto (tgt := 168) E dX8_execute_106 (by decide) ?_
    exact ra_vret E hr dX8_execute_168 h
  by_cases q3_3 : ((M a1 0) + 1) = 4
  · replace h := h.2.2.2.1 q3_3
    refine ra_tableIn (tgt := 109) (off := 98) E dX8_execute_11 (by rw [q3_3]; decide) (by rw [q3_3]; decide) (by rw [q3_3]; decide) (by decide) ?_
    refine ra_aload_n E dX8_execute_109 rfl 0 rfl ?_
    refine ra_aload_n E dX8_execute_110 rfl 1 rfl ?_
    refine gf_X4_1 E h1 fl_X8_99 dX8_execute_111 ?_
    refine ra_callVV (rest := []) E (c_X2_reopen _ h0 _ _ _ h) (lq_X2 _) cv_X2_reopen ml_X8_165 (by decide) (lm (h0.add (j := 0) (by decide))) (fun R => ⟨_, cel_canal tc ad h0 R⟩) rfl rfl rfl (Nat.le_of_ble_eq_true rfl) ⟨Nat.le_of_ble_eq_true rfl, Nat.le_of_ble_eq_true rfl⟩ ⟨Nat.zero_le _, Nat.zero_le _⟩ dX8_execute_114 (fun M15 h => ?_)
    refine ra_goto (tgt := 168) E dX8_execute_117 (by decide) ?_
    exact ra_vret E hr dX8_execute_168 h
  by_cases q3_4 : ((M a1 0) + 1) = 5
  · replace h := h.2.2.2.2.1 q3_4
    refine ra_tableIn (tgt := 120) (off := 109) E dX8_execute_11 (by rw [q3_4]; decide) (by rw [q3_4]; decide) (by rw [q3_4]; decide) (by decide) ?_
    refine ra_aload_n E dX8_execute_120 rfl 0 rfl ?_
    refine ra_aload_n E dX8_execute_121 rfl 1 rfl ?_
    refine gf_X4_1 E h1 fl_X8_99 dX8_execute_122 ?_
    refine ra_aload_n E dX8_execute_125 rfl 1 rfl ?_
    refine gf_X4_2 E h1 fl_X8_102 dX8_execute_126 ?_
    refine ra_callVV (rest := []) E (c_X2_loadFlour _ h0 _ _ _ _ h) (lq_X2 _) cv_X2_loadFlour ml_X8_168 (by decide) (lm (h0.add (j := 0) (by decide))) (fun R => ⟨_, cel_canal tc ad h0 R⟩) rfl rfl rfl (Nat.le_of_ble_eq_true rfl) ⟨Nat.le_of_ble_eq_true rfl, Nat.le_of_ble_eq_true rfl⟩ ⟨Nat.zero_le _, Nat.zero_le _⟩ dX8_execute_129 (fun M16 h => ?_)
    refine ra_goto (tgt := 168) E dX8_execute_132 (by decide) ?_
    exact ra_vret E hr dX8_execute_168 h
  by_cases q3_5 : ((M a1 0) + 1) = 6
  · replace h := h.2.2.2.2.2.1 q3_5
    refine ra_tableIn (tgt := 135) (off := 124) E dX8_execute_11 (by rw [q3_5]; decide) (by rw [q3_5]; decide) (by rw [q3_5]; decide) (by decide) ?_
    refine ra_aload_n E dX8_execute_135 rfl 0 rfl ?_
    refine ra_aload_n E dX8_execute_136 rfl 1 rfl ?_
    refine gf_X4_1 E h1 fl_X8_99 dX8_execute_137 ?_
    refine ra_callVV (rest := []) E (c_X2_gather _ h0 _ _ _ h) (lq_X2 _) cv_X2_gather ml_X8_171 (by decide) (lm (h0.add (j := 0) (by decide))) (fun R => ⟨_, cel_canal tc ad h0 R⟩) rfl rfl rfl (Nat.le_of_ble_eq_true rfl) ⟨Nat.le_of_ble_eq_true rfl, Nat.le_of_ble_eq_true rfl⟩ ⟨Nat.zero_le _, Nat.zero_le _⟩ dX8_execute_140 (fun M17 h => ?_)
    refine ra_goto (tgt := 168) E dX8_execute_143 (by decide) ?_
    exact ra_vret E hr dX8_execute_168 h
  by_cases q3_6 : ((M a1 0) + 1) = 7
  · replace h := h.2.2.2.2.2.2.1 q3_6
    refine ra_tableIn (tgt := 146) (off := 135) E dX8_execute_11 (by rw [q3_6]; decide) (by rw [q3_6]; decide) (by rw [q3_6]; decide) (by decide) ?_
    refine ra_aload_n E dX8_execute_146 rfl 0 rfl ?_
    refine ra_aload_n E dX8_execute_147 rfl 1 rfl ?_
    refine gf_X4_1 E h1 fl_X8_99 dX8_execute_148 ?_
    refine ra_callVV (rest := []) E (c_X2_clean _ h0 _ _ _ h) (lq_X2 _) cv_X2_clean ml_X8_174 (by decide) (lm (h0.add (j := 0) (by decide))) (fun R => ⟨_, cel_canal tc ad h0 R⟩) rfl rfl rfl (Nat.le_of_ble_eq_true rfl) ⟨Nat.le_of_ble_eq_true rfl, Nat.le_of_ble_eq_true rfl⟩ ⟨Nat.zero_le _, Nat.zero_le _⟩ dX8_execute_151 (fun M18 h => ?_)
    refine ra_goto (tgt := 168) E dX8_execute_154 (by decide) ?_
    exact ra_vret E hr dX8_execute_168 h
  by_cases q3_7 : ((M a1 0) + 1) = 8
  · replace h := h.2.2.2.2.2.2.2.1 q3_7
    refine ra_tableIn (tgt := 157) (off := 146) E dX8_execute_11 (by rw [q3_7]; decide) (by rw [q3_7]; decide) (by rw [q3_7]; decide) (by decide) ?_
    refine ra_aload_n E dX8_execute_157 rfl 0 rfl ?_
    refine ra_aload_n E dX8_execute_158 rfl 1 rfl ?_
    refine gf_X4_1 E h1 fl_X8_99 dX8_execute_159 ?_
    refine ra_callVV (rest := []) E (c_X2_passAtMost _ h0 _ _ _ h) (lq_X2 _) cv_X2_passAtMost ml_X8_177 (by decide) (lm (h0.add (j := 0) (by decide))) (fun R => ⟨_, cel_canal tc ad h0 R⟩) rfl rfl rfl (Nat.le_of_ble_eq_true rfl) ⟨Nat.le_of_ble_eq_true rfl, Nat.le_of_ble_eq_true rfl⟩ ⟨Nat.zero_le _, Nat.zero_le _⟩ dX8_execute_162 (fun M19 h => ?_)
    refine ra_goto (tgt := 168) E dX8_execute_165 (by decide) ?_
    exact ra_vret E hr dX8_execute_168 h
  replace h := h.2.2.2.2.2.2.2.2 q3_0 q3_1 q3_2 q3_3 q3_4 q3_5 q3_6 q3_7
  refine ra_tableOut (tgt := 168) E dX8_execute_11 (by have := lk_ne q3_0 (by decide : (1 : Int32).toInt = 1); have := lk_ne q3_1 (by decide : (2 : Int32).toInt = 2); have := lk_ne q3_2 (by decide : (3 : Int32).toInt = 3); have := lk_ne q3_3 (by decide : (4 : Int32).toInt = 4); have := lk_ne q3_4 (by decide : (5 : Int32).toInt = 5); have := lk_ne q3_5 (by decide : (6 : Int32).toInt = 6); have := lk_ne q3_6 (by decide : (7 : Int32).toInt = 7); have := lk_ne q3_7 (by decide : (8 : Int32).toInt = 8); omega) (by decide) ?_
  exact ra_vret E hr dX8_execute_168 h
def f_X10_appendSigns_L2 (a1 : Nat) (K : TM → Prop) : Nat → Int32 → TM → Prop
  | 0, _, _ => False
  | n + 1, x2, M => f_J0_length_8abf5 a1 M (fun r2 M1 => ((r2 ≤ x2 → K M1) ∧ (¬ r2 ≤ x2 → f_J0_charAt_5068e a1 x2 M1 (fun r5 M4 => f_X10_appendByte r5 M4 (fun M7 => f_X10_appendSigns_L2 a1 K n (x2 + 1) M7)))))
set_option maxRecDepth 100000 in
set_option maxHeartbeats 4000000 in
theorem l_X10_appendSigns_L2 {p : Program} {l : Launch} {e : Env} {s : State} {m : MethodId} {args : Array Value} {below : List Frame} {meth : Method} {c : Code} {D : va_G} {tc : Nat → ClassId} {ad : Nat → Nat} (a1 : Nat) (h1 : a1 < nS) {K : TM → Prop} (E : Ev p s m args meth c D tc ad RX10 cX10_appendSigns 3) (hr : meth.sig.returnType = none) : ∀ (n : Nat) (x2 : Int32) (M : TM) , f_X10_appendSigns_L2 a1 K n x2 M → Wa p l e (rmD 4) s m args below meth c 0 0 (MQ below (va_Qv K (EndW D tc ad) (A0 ad s.heap.size)) args s 0 0 (A0 ad s.heap.size)) D tc ad 3 M 2 [(0, .ref (ad 1)), (1, .ref (ad (2200 + a1))), (2, .int x2)] [] := by
  intro n
  induction n with
  | zero => intro x2 M  h; exact h.elim
  | succ n ih =>
    intro x2 M  h
    unfold f_X10_appendSigns_L2 at h
    refine ra_iload_n E dX10_appendSigns_2 rfl 2 rfl ?_
    refine ra_aload_n E dX10_appendSigns_3 rfl 1 rfl ?_
    refine ra_callIR (rest := [_]) E (c_J0_length_8abf5 _ h1 _ _ h) (lq_J0 _) cv_J0_length_8abf5 ml_X10_41 (by decide) (rv_str E h1) rfl rfl (Nat.le_of_ble_eq_true rfl) ⟨Nat.le_of_ble_eq_true rfl, Nat.le_of_ble_eq_true rfl⟩ ⟨Nat.zero_le _, Nat.zero_le _⟩ dX10_appendSigns_4 (fun r2 M1 h => ?_)
    refine ra_icmp_ge (tgt := 25) E dX10_appendSigns_7 (by decide) (fun q3 => ?_) (fun q3 => ?_)
    · replace h := h.1 q3
      exact ra_vret E hr dX10_appendSigns_25 h
    · replace h := h.2 q3
      refine ra_aload_n E dX10_appendSigns_10 rfl 0 rfl ?_
      refine ra_aload_n E dX10_appendSigns_11 rfl 1 rfl ?_
      refine ra_iload_n E dX10_appendSigns_12 rfl 2 rfl ?_
      refine ra_callIR (rest := [_]) E (c_J0_charAt_5068e _ h1 _ _ _ h) (lq_J0 _) cv_J0_charAt_5068e ml_X10_46 (by decide) (rv_str E h1) rfl rfl (Nat.le_of_ble_eq_true rfl) ⟨Nat.le_of_ble_eq_true rfl, Nat.le_of_ble_eq_true rfl⟩ ⟨Nat.zero_le _, Nat.zero_le _⟩ dX10_appendSigns_13 (fun r5 M4 h => ?_)
      obtain ⟨b6, h⟩ := h
      refine ra_callVV (rest := []) E (c_X10_appendByte _ _ _ h) (lq_X10 _) cv_X10_appendByte ml_X10_37 (by decide) (lm (by decide)) (fun R => ⟨_, cel_1 tc ad R⟩) rfl rfl rfl (Nat.le_of_ble_eq_true rfl) ⟨Nat.le_of_ble_eq_true rfl, Nat.le_of_ble_eq_true rfl⟩ ⟨Nat.zero_le _, Nat.zero_le _⟩ dX10_appendSigns_16 (fun M7 h => ?_)
      refine ra_iinc1 (L' := [(2, _), (0, _), (1, _)]) E dX10_appendSigns_19 2 rfl (by decide) rfl ?_
      refine ra_goto (tgt := 2) E dX10_appendSigns_22 (by decide) ?_
      exact ra_sub (L' := [(0, _), (1, _), (2, _)]) [1, 2, 0] rfl (ih _ _ h)
def f_X10_appendSigns (a1 : Nat) (M : TM) (K : TM → Prop) : Prop := ∃ n, f_X10_appendSigns_L2 a1 K n (0 : Int32) M
set_option maxRecDepth 100000 in
set_option maxHeartbeats 4000000 in
theorem c_X10_appendSigns {ad : Nat → Nat} (a1 : Nat) (h1 : a1 < nS) (M : TM) (K : TM → Prop) (h : f_X10_appendSigns a1 M K) : MV yX10_appendSigns cX10_appendSigns 3 4 ad [.ref (ad 1), .ref (ad (2200 + a1))] M K := by
  refine MV_of RX10 rfl (by decide +kernel) (Nat.le_of_ble_eq_true rfl) (fun p l e s m below meth c D tc E hr => ?_)
  unfold f_X10_appendSigns at h
  refine ra_iconst E dX10_appendSigns_0 ki_0 ?_
  refine ra_istore_n (L' := [(2, _), (0, _), (1, _)]) E dX10_appendSigns_1 rfl (by decide) rfl ?_
  obtain ⟨n8, h⟩ := h
  exact ra_sub (L' := [(0, _), (1, _), (2, _)]) [1, 2, 0] rfl (l_X10_appendSigns_L2 a1 h1 E hr n8 _ _ h)
def f_X10_isAtWord_L28 (a1 : Nat) (K : Int32 → TM → Prop) : Nat → Int32 → TM → Prop
  | 0, _, _ => False
  | n + 1, x2, M => f_J0_length_8abf5 a1 M (fun r9 M8 => ((r9 ≤ x2 → K (1 : Int32) M8) ∧ (¬ r9 ≤ x2 → (((500 : Int32) ≤ ((M8 1 4) + x2) → K (1 : Int32) M8) ∧ (¬ (500 : Int32) ≤ ((M8 1 4) + x2) → vp_in ((M8 1 4) + x2) 500 ∧ f_J0_charAt_5068e a1 x2 M8 (fun r14 M13 => (((M8 2 ((M8 1 4) + x2).toNatClampNeg) = r14 → f_X10_isAtWord_L28 a1 K n (x2 + 1) M13) ∧ (¬ (M8 2 ((M8 1 4) + x2).toNatClampNeg) = r14 → K (0 : Int32) M13))))))))
set_option maxRecDepth 100000 in
set_option maxHeartbeats 4000000 in
theorem l_X10_isAtWord_L28 {p : Program} {l : Launch} {e : Env} {s : State} {m : MethodId} {args : Array Value} {below : List Frame} {meth : Method} {c : Code} {D : va_G} {tc : Nat → ClassId} {ad : Nat → Nat} (a1 : Nat) (h1 : a1 < nS) {K : Int32 → TM → Prop} (E : Ev p s m args meth c D tc ad RX10 cX10_isAtWord 3) (hr : meth.sig.returnType = (some .boolean)) : ∀ (n : Nat) (x2 : Int32) (M : TM) , f_X10_isAtWord_L28 a1 K n x2 M → Wa p l e (rmD 4) s m args below meth c 0 0 (MQ below (va_Qi (fun r M' => (r = 0 ∨ r = 1) ∧ K r M') (EndW D tc ad) (A0 ad s.heap.size)) args s 0 0 (A0 ad s.heap.size)) D tc ad 3 M 28 [(0, .ref (ad 1)), (1, .ref (ad (2200 + a1))), (2, .int x2)] [] := by
  intro n
  induction n with
  | zero => intro x2 M  h; exact h.elim
  | succ n ih =>
    intro x2 M  h
    unfold f_X10_isAtWord_L28 at h
    refine ra_iload_n E dX10_isAtWord_28 rfl 2 rfl ?_
    refine ra_aload_n E dX10_isAtWord_29 rfl 1 rfl ?_
    refine ra_callIR (rest := [_]) E (c_J0_length_8abf5 _ h1 _ _ h) (lq_J0 _) cv_J0_length_8abf5 ml_X10_41 (by decide) (rv_str E h1) rfl rfl (Nat.le_of_ble_eq_true rfl) ⟨Nat.le_of_ble_eq_true rfl, Nat.le_of_ble_eq_true rfl⟩ ⟨Nat.zero_le _, Nat.zero_le _⟩ dX10_isAtWord_30 (fun r9 M8 h => ?_)
    refine ra_icmp_ge (tgt := 77) E dX10_isAtWord_33 (by decide) (fun q10 => ?_) (fun q10 => ?_)
    · replace h := h.1 q10
      refine ra_iconst E dX10_isAtWord_77 ki_1 ?_
      exact ra_zret E hr rfl dX10_isAtWord_78 ⟨Or.inr rfl, h⟩
    · replace h := h.2 q10
      refine ra_aload_n E dX10_isAtWord_36 rfl 0 rfl ?_
      refine gf_X10_4 E fl_X10_25 dX10_isAtWord_37 ?_
      refine ra_iload_n E dX10_isAtWord_40 rfl 2 rfl ?_
      refine ra_iadd E dX10_isAtWord_41 ?_
      refine ra_aload_n E dX10_isAtWord_42 rfl 0 rfl ?_
      refine gf_X10_0 E fl_X10_9 dX10_isAtWord_43 ?_
      refine ra_alen (n := 500) (v := 500) E (lm (by decide)) (fun R => ⟨_, (cel_2 tc ad) R, rfl⟩) rfl (by decide) dX10_isAtWord_46 ?_
      refine ra_icmp_ge (tgt := 77) E dX10_isAtWord_47 (by decide) (fun q11 => ?_) (fun q11 => ?_)
      · replace h := h.1 q11
        refine ra_iconst E dX10_isAtWord_77 ki_1 ?_
        exact ra_zret E hr rfl dX10_isAtWord_78 ⟨Or.inr rfl, h⟩
      · replace h := h.2 q11
        refine ra_aload_n E dX10_isAtWord_50 rfl 0 rfl ?_
        refine gf_X10_0 E fl_X10_9 dX10_isAtWord_51 ?_
        refine ra_aload_n E dX10_isAtWord_54 rfl 0 rfl ?_
        refine gf_X10_4 E fl_X10_25 dX10_isAtWord_55 ?_
        refine ra_iload_n E dX10_isAtWord_58 rfl 2 rfl ?_
        refine ra_iadd E dX10_isAtWord_59 ?_
        obtain ⟨g12, h⟩ := h
        refine ra_bald E (lm (by decide)) (cel_2 tc ad) g12 dX10_isAtWord_60 ?_
        refine ra_aload_n E dX10_isAtWord_61 rfl 1 rfl ?_
        refine ra_iload_n E dX10_isAtWord_62 rfl 2 rfl ?_
        refine ra_callIR (rest := [_]) E (c_J0_charAt_5068e _ h1 _ _ _ h) (lq_J0 _) cv_J0_charAt_5068e ml_X10_46 (by decide) (rv_str E h1) rfl rfl (Nat.le_of_ble_eq_true rfl) ⟨Nat.le_of_ble_eq_true rfl, Nat.le_of_ble_eq_true rfl⟩ ⟨Nat.zero_le _, Nat.zero_le _⟩ dX10_isAtWord_63 (fun r14 M13 h => ?_)
        obtain ⟨b15, h⟩ := h
        refine ra_icmp_eq (tgt := 71) E dX10_isAtWord_66 (by decide) (fun q16 => ?_) (fun q16 => ?_)
        · replace h := h.1 q16
          refine ra_iinc1 (L' := [(2, _), (0, _), (1, _)]) E dX10_isAtWord_71 2 rfl (by decide) rfl ?_
          refine ra_goto (tgt := 28) E dX10_isAtWord_74 (by decide) ?_
          exact ra_sub (L' := [(0, _), (1, _), (2, _)]) [1, 2, 0] rfl (ih _ _ h)
        · replace h := h.2 q16
          refine ra_iconst E dX10_isAtWord_69 ki_0 ?_
          exact ra_zret E hr rfl dX10_isAtWord_70 ⟨Or.inl rfl, h⟩
def f_X10_isAtWord (a1 : Nat) (M : TM) (K : Int32 → TM → Prop) : Prop := f_X10_isAt (3 : Int32) M (fun r2 M1 => ((r2 = 0 → K (0 : Int32) M1) ∧ (¬ r2 = 0 → f_J0_length_8abf5 a1 M1 (fun r6 M5 => ((((M1 1 5) - (M1 1 4)) = r6 → ∃ n, f_X10_isAtWord_L28 a1 K n (0 : Int32) M5) ∧ (¬ ((M1 1 5) - (M1 1 4)) = r6 → K (0 : Int32) M5))))))
set_option maxRecDepth 100000 in
set_option maxHeartbeats 4000000 in
theorem c_X10_isAtWord {ad : Nat → Nat} (a1 : Nat) (h1 : a1 < nS) (M : TM) (K : Int32 → TM → Prop) (h : f_X10_isAtWord a1 M K) : MI yX10_isAtWord cX10_isAtWord 3 (some .boolean) 4 ad [.ref (ad 1), .ref (ad (2200 + a1))] M (fun r M' => (r = 0 ∨ r = 1) ∧ K r M') := by
  refine MI_of RX10 rfl (by decide +kernel) (Nat.le_of_ble_eq_true rfl) (fun p l e s m below meth c D tc E hr => ?_)
  unfold f_X10_isAtWord at h
  refine ra_aload_n E dX10_isAtWord_0 rfl 0 rfl ?_
  refine ra_iconst E dX10_isAtWord_1 ki_3 ?_
  refine ra_callIV (rest := []) E (c_X10_isAt _ _ _ h) (lq_X10 _) cv_X10_isAt ml_X10_67 (by decide) (lm (by decide)) (fun R => ⟨_, cel_1 tc ad R⟩) rfl rfl rfl (Nat.le_of_ble_eq_true rfl) ⟨Nat.le_of_ble_eq_true rfl, Nat.le_of_ble_eq_true rfl⟩ ⟨Nat.zero_le _, Nat.zero_le _⟩ dX10_isAtWord_2 (fun r2 M1 h => ?_)
  obtain ⟨b3, h⟩ := h
  refine ra_if_eq (tgt := 24) E dX10_isAtWord_5 (by decide) (fun q4 => ?_) (fun q4 => ?_)
  · replace h := h.1 q4
    refine ra_iconst E dX10_isAtWord_24 ki_0 ?_
    exact ra_zret E hr rfl dX10_isAtWord_25 ⟨Or.inl rfl, h⟩
  · replace h := h.2 q4
    refine ra_aload_n E dX10_isAtWord_8 rfl 0 rfl ?_
    refine gf_X10_5 E fl_X10_28 dX10_isAtWord_9 ?_
    refine ra_aload_n E dX10_isAtWord_12 rfl 0 rfl ?_
    refine gf_X10_4 E fl_X10_25 dX10_isAtWord_13 ?_
    refine ra_isub E dX10_isAtWord_16 ?_
    refine ra_aload_n E dX10_isAtWord_17 rfl 1 rfl ?_
    refine ra_callIR (rest := [_]) E (c_J0_length_8abf5 _ h1 _ _ h) (lq_J0 _) cv_J0_length_8abf5 ml_X10_41 (by decide) (rv_str E h1) rfl rfl (Nat.le_of_ble_eq_true rfl) ⟨Nat.le_of_ble_eq_true rfl, Nat.le_of_ble_eq_true rfl⟩ ⟨Nat.zero_le _, Nat.zero_le _⟩ dX10_isAtWord_18 (fun r6 M5 h => ?_)
    refine ra_icmp_eq (tgt := 26) E dX10_isAtWord_21 (by decide) (fun q7 => ?_) (fun q7 => ?_)
    · replace h := h.1 q7
      refine ra_iconst E dX10_isAtWord_26 ki_0 ?_
      refine ra_istore_n (L' := [(2, _), (0, _), (1, _)]) E dX10_isAtWord_27 rfl (by decide) rfl ?_
      obtain ⟨n17, h⟩ := h
      exact ra_sub (L' := [(0, _), (1, _), (2, _)]) [1, 2, 0] rfl (l_X10_isAtWord_L28 a1 h1 E hr n17 _ _ h)
    · replace h := h.2 q7
      refine ra_iconst E dX10_isAtWord_24 ki_0 ?_
      exact ra_zret E hr rfl dX10_isAtWord_25 ⟨Or.inl rfl, h⟩
def f_X10_readWord (a1 : Nat) (M : TM) (K : TM → Prop) : Prop := f_X10_isAtWord a1 M (fun r2 M1 => ((r2 = 0 → f_X10_fail (1 : Int32) M1 (fun M5 => K M5)) ∧ (¬ r2 = 0 → f_X10_advance M1 (fun M6 => K M6))))
set_option maxRecDepth 100000 in
set_option maxHeartbeats 4000000 in
theorem c_X10_readWord {ad : Nat → Nat} (a1 : Nat) (h1 : a1 < nS) (M : TM) (K : TM → Prop) (h : f_X10_readWord a1 M K) : MV yX10_readWord cX10_readWord 2 5 ad [.ref (ad 1), .ref (ad (2200 + a1))] M K := by
  refine MV_of RX10 rfl (by decide +kernel) (Nat.le_of_ble_eq_true rfl) (fun p l e s m below meth c D tc E hr => ?_)
  unfold f_X10_readWord at h
  refine ra_aload_n E dX10_readWord_0 rfl 0 rfl ?_
  refine ra_aload_n E dX10_readWord_1 rfl 1 rfl ?_
  refine ra_callIV (rest := []) E (c_X10_isAtWord _ h1 _ _ h) (lq_X10 _) cv_X10_isAtWord ml_X10_71 (by decide) (lm (by decide)) (fun R => ⟨_, cel_1 tc ad R⟩) rfl rfl rfl (Nat.le_of_ble_eq_true rfl) ⟨Nat.le_of_ble_eq_true rfl, Nat.le_of_ble_eq_true rfl⟩ ⟨Nat.zero_le _, Nat.zero_le _⟩ dX10_readWord_2 (fun r2 M1 h => ?_)
  obtain ⟨b3, h⟩ := h
  refine ra_if_eq (tgt := 15) E dX10_readWord_5 (by decide) (fun q4 => ?_) (fun q4 => ?_)
  · replace h := h.1 q4
    refine ra_aload_n E dX10_readWord_15 rfl 0 rfl ?_
    refine ra_iconst E dX10_readWord_16 ki_1 ?_
    refine ra_callVV (rest := []) E (c_X10_fail _ _ _ h) (lq_X10 _) cv_X10_fail ml_X10_75 (by decide) (lm (by decide)) (fun R => ⟨_, cel_1 tc ad R⟩) rfl rfl rfl (Nat.le_of_ble_eq_true rfl) ⟨Nat.le_of_ble_eq_true rfl, Nat.le_of_ble_eq_true rfl⟩ ⟨Nat.zero_le _, Nat.zero_le _⟩ dX10_readWord_17 (fun M5 h => ?_)
    exact ra_vret E hr dX10_readWord_20 h
  · replace h := h.2 q4
    refine ra_aload_n E dX10_readWord_8 rfl 0 rfl ?_
    refine ra_callVV (rest := []) E (c_X10_advance _ _ h) (lq_X10 _) cv_X10_advance ml_X10_56 (by decide) (lm (by decide)) (fun R => ⟨_, cel_1 tc ad R⟩) rfl rfl rfl (Nat.le_of_ble_eq_true rfl) ⟨Nat.le_of_ble_eq_true rfl, Nat.le_of_ble_eq_true rfl⟩ ⟨Nat.zero_le _, Nat.zero_le _⟩ dX10_readWord_9 (fun M6 h => ?_)
    refine ra_goto (tgt := 20) E dX10_readWord_12 (by decide) ?_
    exact ra_vret E hr dX10_readWord_20 h
def f_X12_minutesToTarget_L18 (p1 : Int32) (K : Int32 → TM → Prop) (X : String → TM → Prop) : Nat → Int32 → Int32 → TM → Prop
  | 0, _, _, _ => False
  | n + 1, x1, x2, M => (((200 : Int32) < x2 → K (-1 : Int32) M) ∧ (¬ (200 : Int32) < x2 → vp_in (M 0 6) 11 ∧ f_X2_isSailing (27 + 61 * (M 0 6).toNatClampNeg) x1 M (fun r8 M7 => ((¬ r8 = 0 → vp_in (M7 0 6) 11 ∧ f_X2_passAtMost (27 + 61 * (M7 0 6).toNatClampNeg) (1 : Int32) M7 (fun M12 => f_X12_minutesToTarget_L18 p1 K X n x1 (x2 + 1) M12)) ∧ (r8 = 0 → K x2 M7)))))
set_option maxRecDepth 100000 in
set_option maxHeartbeats 4000000 in
theorem l_X12_minutesToTarget_L18 {p : Program} {l : Launch} {e : Env} {s : State} {m : MethodId} {args : Array Value} {below : List Frame} {meth : Method} {c : Code} {D : va_G} {tc : Nat → ClassId} {ad : Nat → Nat} (p1 : Int32) {K : Int32 → TM → Prop} {X : String → TM → Prop} (E : Ev p s m args meth c D tc ad RX12 cX12_minutesToTarget 3) (hr : meth.sig.returnType = (some .int)) (hfl : l.stackTraces = false) (hT : ∀ x ∈ c.exceptionTable.toList, False) : ∀ (n : Nat) (x1 : Int32) (x2 : Int32) (M : TM) , f_X12_minutesToTarget_L18 p1 K X n x1 x2 M → Wa p l e (rmX 7 1) s m args below meth c 1 (6 * 1) (vx_MQ below (va_Qi K (EndW D tc ad) (A0 ad s.heap.size)) (XC0 X D tc ad (A0 ad s.heap.size)) args s 1 (6 * 1) (A0 ad s.heap.size)) D tc ad 3 M 18 [(0, .ref (ad 0)), (1, .int x1), (2, .int x2)] [] := by
  intro n
  induction n with
  | zero => intro x1 x2 M  h; exact h.elim
  | succ n ih =>
    intro x1 x2 M  h
    unfold f_X12_minutesToTarget_L18 at h
    refine ra_iload_n E dX12_minutesToTarget_18 rfl 2 rfl ?_
    refine ra_sipush E dX12_minutesToTarget_19 ks_200 ?_
    refine ra_icmp_gt (tgt := 52) E dX12_minutesToTarget_22 (by decide) (fun q5 => ?_) (fun q5 => ?_)
    · replace h := h.1 q5
      refine ra_iconst E dX12_minutesToTarget_52 ki_m1 ?_
      exact rx_iret E hr dX12_minutesToTarget_53 ⟨Nat.le_of_ble_eq_true rfl, Nat.le_of_ble_eq_true rfl⟩ h
    · replace h := h.2 q5
      refine ra_aload_n E dX12_minutesToTarget_25 rfl 0 rfl ?_
      obtain ⟨g6, h⟩ := h
      refine gf_X12_6 E fl_X12_44 dX12_minutesToTarget_26 ?_
      refine ra_iload_n E dX12_minutesToTarget_29 rfl 1 rfl ?_
      refine ra_callIV (rest := []) E (c_X2_isSailing _ (isCanal_of g6) _ _ _ h) (lq_X2 _) cv_X2_isSailing ml_X12_262 (by decide) (lm ((isCanal_of g6).add (j := 0) (by decide))) (fun R => ⟨_, cel_canal tc ad (isCanal_of g6) R⟩) rfl rfl rfl (Nat.le_of_ble_eq_true rfl) ⟨Nat.le_of_ble_eq_true rfl, Nat.le_of_ble_eq_true rfl⟩ ⟨Nat.le_of_ble_eq_true rfl, Nat.le_of_ble_eq_true rfl⟩ dX12_minutesToTarget_30 (fun r8 M7 h => ?_)
      obtain ⟨b9, h⟩ := h
      refine ra_if_ne (tgt := 38) E dX12_minutesToTarget_33 (by decide) (fun q10 => ?_) (fun q10 => ?_)
      · replace h := h.1 q10
        refine ra_aload_n E dX12_minutesToTarget_38 rfl 0 rfl ?_
        obtain ⟨g11, h⟩ := h
        refine gf_X12_6 E fl_X12_44 dX12_minutesToTarget_39 ?_
        refine ra_iconst E dX12_minutesToTarget_42 ki_1 ?_
        refine ra_callVV (rest := []) E (c_X2_passAtMost _ (isCanal_of g11) _ _ _ h) (lq_X2 _) cv_X2_passAtMost ml_X12_265 (by decide) (lm ((isCanal_of g11).add (j := 0) (by decide))) (fun R => ⟨_, cel_canal tc ad (isCanal_of g11) R⟩) rfl rfl rfl (Nat.le_of_ble_eq_true rfl) ⟨Nat.le_of_ble_eq_true rfl, Nat.le_of_ble_eq_true rfl⟩ ⟨Nat.le_of_ble_eq_true rfl, Nat.le_of_ble_eq_true rfl⟩ dX12_minutesToTarget_43 (fun M12 h => ?_)
        refine ra_iinc1 (L' := [(2, _), (0, _), (1, _)]) E dX12_minutesToTarget_46 2 rfl (by decide) rfl ?_
        refine ra_goto (tgt := 18) E dX12_minutesToTarget_49 (by decide) ?_
        exact ra_sub (L' := [(0, _), (1, _), (2, _)]) [1, 2, 0] rfl (ih _ _ _ h)
      · replace h := h.2 q10
        refine ra_iload_n E dX12_minutesToTarget_36 rfl 2 rfl ?_
        exact rx_iret E hr dX12_minutesToTarget_37 ⟨Nat.le_of_ble_eq_true rfl, Nat.le_of_ble_eq_true rfl⟩ h
def f_X12_minutesToTarget (p1 : Int32) (M : TM) (K : Int32 → TM → Prop) (X : String → TM → Prop) : Prop := f_X12_requireBarge p1 M (fun M1 => vp_in (M1 0 6) 11 ∧ vp_in (M1 0 5) 11 ∧ f_X2_copyFrom (27 + 61 * (M1 0 6).toNatClampNeg) (27 + 61 * (M1 0 5).toNatClampNeg) M1 (fun M4 => ∃ n, f_X12_minutesToTarget_L18 p1 K X n p1 (0 : Int32) M4)) X
set_option maxRecDepth 100000 in
set_option maxHeartbeats 4000000 in
theorem c_X12_minutesToTarget {ad : Nat → Nat} (p1 : Int32) (M : TM) (K : Int32 → TM → Prop) (X : String → TM → Prop) (h : f_X12_minutesToTarget p1 M K X) : XI yX12_minutesToTarget cX12_minutesToTarget 3 (some .int) 7 1 ad [.ref (ad 0), .int p1] M K X := by
  refine XI_of RX12 rfl (by decide +kernel) (Nat.le_of_ble_eq_true rfl) (fun p l e s m below meth c D tc E hr hfl hT => ?_)
  unfold f_X12_minutesToTarget at h
  refine ra_aload_n E dX12_minutesToTarget_0 rfl 0 rfl ?_
  refine ra_iload_n E dX12_minutesToTarget_1 rfl 1 rfl ?_
  refine rx_callVVP (rest := []) E hfl (c_X12_requireBarge _ _ _ _ h) (lq_X12 _) cv_X12_requireBarge ml_X12_177 (by decide) (lm (by decide)) (fun R => ⟨_, cel_0 tc ad R⟩) rfl rfl rfl (Nat.le_of_ble_eq_true rfl) ⟨Nat.le_of_ble_eq_true rfl, Nat.le_of_ble_eq_true rfl⟩ ⟨Nat.le_of_ble_eq_true rfl, Nat.le_of_ble_eq_true rfl⟩ dX12_minutesToTarget_2 hT ⟨Nat.le_of_ble_eq_true rfl, Nat.le_of_ble_eq_true rfl⟩ (fun _ _ hx => hx) (fun M1 h => ?_)
  refine ra_aload_n E dX12_minutesToTarget_5 rfl 0 rfl ?_
  obtain ⟨g2, h⟩ := h
  refine gf_X12_6 E fl_X12_44 dX12_minutesToTarget_6 ?_
  refine ra_aload_n E dX12_minutesToTarget_9 rfl 0 rfl ?_
  obtain ⟨g3, h⟩ := h
  refine gf_X12_5 E fl_X12_41 dX12_minutesToTarget_10 ?_
  refine ra_callVV (rest := []) E (c_X2_copyFrom _ (isCanal_of g2) _ (isCanal_of g3) _ _ h) (lq_X2 _) cv_X2_copyFrom ml_X12_258 (by decide) (lm ((isCanal_of g2).add (j := 0) (by decide))) (fun R => ⟨_, cel_canal tc ad (isCanal_of g2) R⟩) rfl rfl rfl (Nat.le_of_ble_eq_true rfl) ⟨Nat.le_of_ble_eq_true rfl, Nat.le_of_ble_eq_true rfl⟩ ⟨Nat.le_of_ble_eq_true rfl, Nat.le_of_ble_eq_true rfl⟩ dX12_minutesToTarget_13 (fun M4 h => ?_)
  refine ra_iconst E dX12_minutesToTarget_16 ki_0 ?_
  refine ra_istore_n (L' := [(2, _), (0, _), (1, _)]) E dX12_minutesToTarget_17 rfl (by decide) rfl ?_
  obtain ⟨n13, h⟩ := h
  refine ra_widen (k := 1) (n := 6 * 1) (Nat.le_of_ble_eq_true rfl) (Nat.le_of_ble_eq_true rfl) ?_
  exact ra_sub (L' := [(0, _), (1, _), (2, _)]) [1, 2, 0] rfl (l_X12_minutesToTarget_L18 p1 E hr hfl hT n13 _ _ _ h)
def f_X12_willBeEaten (p1 : Int32) (M : TM) (K : Int32 → TM → Prop) (X : String → TM → Prop) : Prop := f_X12_requireOrder p1 M (fun M1 => vp_in (M1 0 6) 11 ∧ vp_in (M1 0 5) 11 ∧ f_X2_copyFrom (27 + 61 * (M1 0 6).toNatClampNeg) (27 + 61 * (M1 0 5).toNatClampNeg) M1 (fun M4 => vp_in (M4 0 6) 11 ∧ f_X2_passAtMost (27 + 61 * (M4 0 6).toNatClampNeg) (200 : Int32) M4 (fun M6 => vp_in (M6 0 6) 11 ∧ f_X2_wasEaten (27 + 61 * (M6 0 6).toNatClampNeg) p1 M6 (fun r9 M8 => K r9 M8)))) X
set_option maxRecDepth 100000 in
set_option maxHeartbeats 4000000 in
theorem c_X12_willBeEaten {ad : Nat → Nat} (p1 : Int32) (M : TM) (K : Int32 → TM → Prop) (X : String → TM → Prop) (h : f_X12_willBeEaten p1 M K X) : XI yX12_willBeEaten cX12_willBeEaten 2 (some .boolean) 7 1 ad [.ref (ad 0), .int p1] M (fun r M' => (r = 0 ∨ r = 1) ∧ K r M') X := by
  refine XI_of RX12 rfl (by decide +kernel) (Nat.le_of_ble_eq_true rfl) (fun p l e s m below meth c D tc E hr hfl hT => ?_)
  unfold f_X12_willBeEaten at h
  refine ra_aload_n E dX12_willBeEaten_0 rfl 0 rfl ?_
  refine ra_iload_n E dX12_willBeEaten_1 rfl 1 rfl ?_
  refine rx_callVVP (rest := []) E hfl (c_X12_requireOrder _ _ _ _ h) (lq_X12 _) cv_X12_requireOrder ml_X12_268 (by decide) (lm (by decide)) (fun R => ⟨_, cel_0 tc ad R⟩) rfl rfl rfl (Nat.le_of_ble_eq_true rfl) ⟨Nat.le_of_ble_eq_true rfl, Nat.le_of_ble_eq_true rfl⟩ ⟨Nat.le_of_ble_eq_true rfl, Nat.le_of_ble_eq_true rfl⟩ dX12_willBeEaten_2 hT ⟨Nat.le_of_ble_eq_true rfl, Nat.le_of_ble_eq_true rfl⟩ (fun _ _ hx => hx) (fun M1 h => ?_)
  refine ra_aload_n E dX12_willBeEaten_5 rfl 0 rfl ?_
  obtain ⟨g2, h⟩ := h
  refine gf_X12_6 E fl_X12_44 dX12_willBeEaten_6 ?_
  refine ra_aload_n E dX12_willBeEaten_9 rfl 0 rfl ?_
  obtain ⟨g3, h⟩ := h
  refine gf_X12_5 E fl_X12_41 dX12_willBeEaten_10 ?_
  refine ra_callVV (rest := []) E (c_X2_copyFrom _ (isCanal_of g2) _ (isCanal_of g3) _ _ h) (lq_X2 _) cv_X2_copyFrom ml_X12_258 (by decide) (lm ((isCanal_of g2).add (j := 0) (by decide))) (fun R => ⟨_, cel_canal tc ad (isCanal_of g2) R⟩) rfl rfl rfl (Nat.le_of_ble_eq_true rfl) ⟨Nat.le_of_ble_eq_true rfl, Nat.le_of_ble_eq_true rfl⟩ ⟨Nat.le_of_ble_eq_true rfl, Nat.le_of_ble_eq_true rfl⟩ dX12_willBeEaten_13 (fun M4 h => ?_)
  refine ra_aload_n E dX12_willBeEaten_16 rfl 0 rfl ?_
  obtain ⟨g5, h⟩ := h
  refine gf_X12_6 E fl_X12_44 dX12_willBeEaten_17 ?_
  refine ra_sipush E dX12_willBeEaten_20 ks_200 ?_
  refine ra_callVV (rest := []) E (c_X2_passAtMost _ (isCanal_of g5) _ _ _ h) (lq_X2 _) cv_X2_passAtMost ml_X12_265 (by decide) (lm ((isCanal_of g5).add (j := 0) (by decide))) (fun R => ⟨_, cel_canal tc ad (isCanal_of g5) R⟩) rfl rfl rfl (Nat.le_of_ble_eq_true rfl) ⟨Nat.le_of_ble_eq_true rfl, Nat.le_of_ble_eq_true rfl⟩ ⟨Nat.le_of_ble_eq_true rfl, Nat.le_of_ble_eq_true rfl⟩ dX12_willBeEaten_23 (fun M6 h => ?_)
  refine ra_aload_n E dX12_willBeEaten_26 rfl 0 rfl ?_
  obtain ⟨g7, h⟩ := h
  refine gf_X12_6 E fl_X12_44 dX12_willBeEaten_27 ?_
  refine ra_iload_n E dX12_willBeEaten_30 rfl 1 rfl ?_
  refine ra_callIV (rest := []) E (c_X2_wasEaten _ (isCanal_of g7) _ _ _ h) (lq_X2 _) cv_X2_wasEaten ml_X12_271 (by decide) (lm ((isCanal_of g7).add (j := 0) (by decide))) (fun R => ⟨_, cel_canal tc ad (isCanal_of g7) R⟩) rfl rfl rfl (Nat.le_of_ble_eq_true rfl) ⟨Nat.le_of_ble_eq_true rfl, Nat.le_of_ble_eq_true rfl⟩ ⟨Nat.le_of_ble_eq_true rfl, Nat.le_of_ble_eq_true rfl⟩ dX12_willBeEaten_31 (fun r9 M8 h => ?_)
  obtain ⟨b10, h⟩ := h
  exact rx_zret E hr (nz_01 b10) dX12_willBeEaten_34 ⟨Nat.le_of_ble_eq_true rfl, Nat.le_of_ble_eq_true rfl⟩ ⟨b10, h⟩
def f_X12_coinsAfter (p1 : Int32) (M : TM) (K : Int32 → TM → Prop) (X : String → TM → Prop) : Prop := f_X12_requireRange p1 (0 : Int32) (200 : Int32) M (fun M1 => vp_in (M1 0 6) 11 ∧ vp_in (M1 0 5) 11 ∧ f_X2_copyFrom (27 + 61 * (M1 0 6).toNatClampNeg) (27 + 61 * (M1 0 5).toNatClampNeg) M1 (fun M4 => vp_in (M4 0 6) 11 ∧ f_X2_passAtMost (27 + 61 * (M4 0 6).toNatClampNeg) p1 M4 (fun M6 => vp_in (M6 0 6) 11 ∧ K (M6 (27 + 61 * (M6 0 6).toNatClampNeg) 9) M6))) X
set_option maxRecDepth 100000 in
set_option maxHeartbeats 4000000 in
theorem c_X12_coinsAfter {ad : Nat → Nat} (p1 : Int32) (M : TM) (K : Int32 → TM → Prop) (X : String → TM → Prop) (h : f_X12_coinsAfter p1 M K X) : XI yX12_coinsAfter cX12_coinsAfter 2 (some .int) 7 1 ad [.ref (ad 0), .int p1] M K X := by
  refine XI_of RX12 rfl (by decide +kernel) (Nat.le_of_ble_eq_true rfl) (fun p l e s m below meth c D tc E hr hfl hT => ?_)
  unfold f_X12_coinsAfter at h
  refine ra_iload_n E dX12_coinsAfter_0 rfl 1 rfl ?_
  refine ra_iconst E dX12_coinsAfter_1 ki_0 ?_
  refine ra_sipush E dX12_coinsAfter_2 ks_200 ?_
  refine rx_callVSP (rest := []) E hfl (c_X12_requireRange _ _ _ _ _ _ h) (lq_X12 _) ct_X12_requireRange ml_X12_274 (by decide) rfl rfl (Nat.le_of_ble_eq_true rfl) ⟨Nat.le_of_ble_eq_true rfl, Nat.le_of_ble_eq_true rfl⟩ ⟨Nat.le_of_ble_eq_true rfl, Nat.le_of_ble_eq_true rfl⟩ dX12_coinsAfter_5 hT ⟨Nat.le_of_ble_eq_true rfl, Nat.le_of_ble_eq_true rfl⟩ (fun _ _ hx => hx) (fun M1 h => ?_)
  refine ra_aload_n E dX12_coinsAfter_8 rfl 0 rfl ?_
  obtain ⟨g2, h⟩ := h
  refine gf_X12_6 E fl_X12_44 dX12_coinsAfter_9 ?_
  refine ra_aload_n E dX12_coinsAfter_12 rfl 0 rfl ?_
  obtain ⟨g3, h⟩ := h
  refine gf_X12_5 E fl_X12_41 dX12_coinsAfter_13 ?_
  refine ra_callVV (rest := []) E (c_X2_copyFrom _ (isCanal_of g2) _ (isCanal_of g3) _ _ h) (lq_X2 _) cv_X2_copyFrom ml_X12_258 (by decide) (lm ((isCanal_of g2).add (j := 0) (by decide))) (fun R => ⟨_, cel_canal tc ad (isCanal_of g2) R⟩) rfl rfl rfl (Nat.le_of_ble_eq_true rfl) ⟨Nat.le_of_ble_eq_true rfl, Nat.le_of_ble_eq_true rfl⟩ ⟨Nat.le_of_ble_eq_true rfl, Nat.le_of_ble_eq_true rfl⟩ dX12_coinsAfter_16 (fun M4 h => ?_)
  refine ra_aload_n E dX12_coinsAfter_19 rfl 0 rfl ?_
  obtain ⟨g5, h⟩ := h
  refine gf_X12_6 E fl_X12_44 dX12_coinsAfter_20 ?_
  refine ra_iload_n E dX12_coinsAfter_23 rfl 1 rfl ?_
  refine ra_callVV (rest := []) E (c_X2_passAtMost _ (isCanal_of g5) _ _ _ h) (lq_X2 _) cv_X2_passAtMost ml_X12_265 (by decide) (lm ((isCanal_of g5).add (j := 0) (by decide))) (fun R => ⟨_, cel_canal tc ad (isCanal_of g5) R⟩) rfl rfl rfl (Nat.le_of_ble_eq_true rfl) ⟨Nat.le_of_ble_eq_true rfl, Nat.le_of_ble_eq_true rfl⟩ ⟨Nat.le_of_ble_eq_true rfl, Nat.le_of_ble_eq_true rfl⟩ dX12_coinsAfter_24 (fun M6 h => ?_)
  refine ra_aload_n E dX12_coinsAfter_27 rfl 0 rfl ?_
  obtain ⟨g7, h⟩ := h
  refine gf_X12_6 E fl_X12_44 dX12_coinsAfter_28 ?_
  refine gf_X2_9 E (isCanal_of g7) fl_X12_230 dX12_coinsAfter_31 ?_
  exact rx_iret E hr dX12_coinsAfter_34 ⟨Nat.le_of_ble_eq_true rfl, Nat.le_of_ble_eq_true rfl⟩ h
def f_X12_passMinutes (p1 : Int32) (M : TM) (K : Int32 → TM → Prop) (X : String → TM → Prop) : Prop := f_X12_requireRange p1 (1 : Int32) (60 : Int32) M (fun M1 => vp_in (M1 0 5) 11 ∧ f_X2_canPass (27 + 61 * (M1 0 5).toNatClampNeg) p1 M1 (fun r4 M3 => f_X12_requireState r4 M3 (fun M6 => vp_in (M6 0 5) 11 ∧ f_X5_remember (27 + 61 * (M6 0 5).toNatClampNeg) M6 (fun M8 => vp_in (M8 0 5) 11 ∧ vp_in (M8 0 5) 11 ∧ f_X2_passAtMost (27 + 61 * (M8 0 5).toNatClampNeg) p1 M8 (fun M11 => vp_in (M11 0 5) 11 ∧ K ((M11 (27 + 61 * (M11 0 5).toNatClampNeg) 12) - (M8 (27 + 61 * (M8 0 5).toNatClampNeg) 12)) M11))) X)) X
set_option maxRecDepth 100000 in
set_option maxHeartbeats 4000000 in
theorem c_X12_passMinutes {ad : Nat → Nat} (p1 : Int32) (M : TM) (K : Int32 → TM → Prop) (X : String → TM → Prop) (h : f_X12_passMinutes p1 M K X) : XI yX12_passMinutes cX12_passMinutes 3 (some .int) 7 2 ad [.ref (ad 0), .int p1] M K X := by
  refine XI_of RX12 rfl (by decide +kernel) (Nat.le_of_ble_eq_true rfl) (fun p l e s m below meth c D tc E hr hfl hT => ?_)
  unfold f_X12_passMinutes at h
  refine ra_iload_n E dX12_passMinutes_0 rfl 1 rfl ?_
  refine ra_iconst E dX12_passMinutes_1 ki_1 ?_
  refine ra_bipush E dX12_passMinutes_2 kb_60 ?_
  refine rx_callVSP (rest := []) E hfl (c_X12_requireRange _ _ _ _ _ _ h) (lq_X12 _) ct_X12_requireRange ml_X12_274 (by decide) rfl rfl (Nat.le_of_ble_eq_true rfl) ⟨Nat.le_of_ble_eq_true rfl, Nat.le_of_ble_eq_true rfl⟩ ⟨Nat.le_of_ble_eq_true rfl, Nat.le_of_ble_eq_true rfl⟩ dX12_passMinutes_4 hT ⟨Nat.le_of_ble_eq_true rfl, Nat.le_of_ble_eq_true rfl⟩ (fun _ _ hx => hx) (fun M1 h => ?_)
  refine ra_aload_n E dX12_passMinutes_7 rfl 0 rfl ?_
  obtain ⟨g2, h⟩ := h
  refine gf_X12_5 E fl_X12_41 dX12_passMinutes_8 ?_
  refine ra_iload_n E dX12_passMinutes_11 rfl 1 rfl ?_
  refine ra_callIV (rest := []) E (c_X2_canPass _ (isCanal_of g2) _ _ _ h) (lq_X2 _) cv_X2_canPass ml_X12_332 (by decide) (lm ((isCanal_of g2).add (j := 0) (by decide))) (fun R => ⟨_, cel_canal tc ad (isCanal_of g2) R⟩) rfl rfl rfl (Nat.le_of_ble_eq_true rfl) ⟨Nat.le_of_ble_eq_true rfl, Nat.le_of_ble_eq_true rfl⟩ ⟨Nat.le_of_ble_eq_true rfl, Nat.le_of_ble_eq_true rfl⟩ dX12_passMinutes_12 (fun r4 M3 h => ?_)
  obtain ⟨b5, h⟩ := h
  refine rx_callVSP (rest := []) E hfl (c_X12_requireState _ _ _ _ h) (lq_X12 _) ct_X12_requireState ml_X12_285 (by decide) rfl rfl (Nat.le_of_ble_eq_true rfl) ⟨Nat.le_of_ble_eq_true rfl, Nat.le_of_ble_eq_true rfl⟩ ⟨Nat.le_of_ble_eq_true rfl, Nat.le_of_ble_eq_true rfl⟩ dX12_passMinutes_15 hT ⟨Nat.le_of_ble_eq_true rfl, Nat.le_of_ble_eq_true rfl⟩ (fun _ _ hx => hx) (fun M6 h => ?_)
  refine ra_aload_n E dX12_passMinutes_18 rfl 0 rfl ?_
  refine gf_X12_2 E fl_X12_26 dX12_passMinutes_19 ?_
  refine ra_aload_n E dX12_passMinutes_22 rfl 0 rfl ?_
  obtain ⟨g7, h⟩ := h
  refine gf_X12_5 E fl_X12_41 dX12_passMinutes_23 ?_
  refine ra_callVV (rest := []) E (c_X5_remember _ (isCanal_of g7) _ _ h) (lq_X5 _) cv_X5_remember ml_X12_289 (by decide) (lm (by decide)) (fun R => ⟨_, cel_25 tc ad R⟩) rfl rfl rfl (Nat.le_of_ble_eq_true rfl) ⟨Nat.le_of_ble_eq_true rfl, Nat.le_of_ble_eq_true rfl⟩ ⟨Nat.le_of_ble_eq_true rfl, Nat.le_of_ble_eq_true rfl⟩ dX12_passMinutes_26 (fun M8 h => ?_)
  refine ra_aload_n E dX12_passMinutes_29 rfl 0 rfl ?_
  obtain ⟨g9, h⟩ := h
  refine gf_X12_5 E fl_X12_41 dX12_passMinutes_30 ?_
  refine gf_X2_12 E (isCanal_of g9) fl_X12_242 dX12_passMinutes_33 ?_
  refine ra_istore_n (L' := [(2, _), (0, _), (1, _)]) E dX12_passMinutes_36 rfl (by decide) rfl ?_
  refine ra_aload_n E dX12_passMinutes_37 rfl 1 rfl ?_
  obtain ⟨g10, h⟩ := h
  refine gf_X12_5 E fl_X12_41 dX12_passMinutes_38 ?_
  refine ra_iload_n E dX12_passMinutes_41 rfl 2 rfl ?_
  refine ra_callVV (rest := []) E (c_X2_passAtMost _ (isCanal_of g10) _ _ _ h) (lq_X2 _) cv_X2_passAtMost ml_X12_265 (by decide) (lm ((isCanal_of g10).add (j := 0) (by decide))) (fun R => ⟨_, cel_canal tc ad (isCanal_of g10) R⟩) rfl rfl rfl (Nat.le_of_ble_eq_true rfl) ⟨Nat.le_of_ble_eq_true rfl, Nat.le_of_ble_eq_true rfl⟩ ⟨Nat.le_of_ble_eq_true rfl, Nat.le_of_ble_eq_true rfl⟩ dX12_passMinutes_42 (fun M11 h => ?_)
  refine ra_aload_n E dX12_passMinutes_45 rfl 1 rfl ?_
  obtain ⟨g12, h⟩ := h
  refine gf_X12_5 E fl_X12_41 dX12_passMinutes_46 ?_
  refine gf_X2_12 E (isCanal_of g12) fl_X12_242 dX12_passMinutes_49 ?_
  refine ra_iload_n E dX12_passMinutes_52 rfl 0 rfl ?_
  refine ra_isub E dX12_passMinutes_53 ?_
  exact rx_iret E hr dX12_passMinutes_54 ⟨Nat.le_of_ble_eq_true rfl, Nat.le_of_ble_eq_true rfl⟩ h
def f_X13_runScript_L46 (p1 : Int32) (K : Int32 → TM → Prop)  (M : TM) : Prop := f_X13_isFaulty M (fun r12 M11 => ((r12 = 0 → f_X13_keep M11 (fun M15 => f_X13_record M15 (fun M16 => ∀ M17, M17 = u2 M16 699 27 (0 : Int32) → f_X13_areDoneC (0 : Int32) (M17 699 26) M17 (fun r19 M18 => K (M18 699 27) M18)))) ∧ (¬ r12 = 0 → K (-1 : Int32) M11)))
set_option maxRecDepth 100000 in
set_option maxHeartbeats 4000000 in
theorem l_X13_runScript_L46 {p : Program} {l : Launch} {e : Env} {s : State} {m : MethodId} {args : Array Value} {below : List Frame} {meth : Method} {c : Code} {D : va_G} {tc : Nat → ClassId} {ad : Nat → Nat} (p1 : Int32) {K : Int32 → TM → Prop} (E : Ev p s m args meth c D tc ad RX13 cX13_runScript 3) (hr : meth.sig.returnType = (some .int)) : ∀  (M : TM) , f_X13_runScript_L46 p1 K  M → Wa p l e (rmD 16) s m args below meth c 0 0 (MQ below (va_Qi K (EndW D tc ad) (A0 ad s.heap.size)) args s 0 0 (A0 ad s.heap.size)) D tc ad 3 M 46 [(0, .ref (ad 699))] [] := by
  intro  M  h
  unfold f_X13_runScript_L46 at h
  refine ra_aload_n E dX13_runScript_46 rfl 0 rfl ?_
  refine ra_callIV (rest := []) E (c_X13_isFaulty _ _ h) lq_13 cv_X13_isFaulty ml_X13_401 (by decide) (lmM (by decide)) (fun R => ⟨_, cel_699 tc ad R⟩) rfl rfl rfl (Nat.le_of_ble_eq_true rfl) ⟨Nat.le_of_ble_eq_true rfl, Nat.le_of_ble_eq_true rfl⟩ ⟨Nat.zero_le _, Nat.zero_le _⟩ dX13_runScript_47 (fun r12 M11 h => ?_)
  obtain ⟨b13, h⟩ := h
  refine ra_if_eq (tgt := 55) E dX13_runScript_50 (by decide) (fun q14 => ?_) (fun q14 => ?_)
  · replace h := h.1 q14
    refine ra_aload_n E dX13_runScript_55 rfl 0 rfl ?_
    refine ra_callVV (rest := []) E (c_X13_keep _ _ h) lq_13 cv_X13_keep ml_X13_254 (by decide) (lmM (by decide)) (fun R => ⟨_, cel_699 tc ad R⟩) rfl rfl rfl (Nat.le_of_ble_eq_true rfl) ⟨Nat.le_of_ble_eq_true rfl, Nat.le_of_ble_eq_true rfl⟩ ⟨Nat.zero_le _, Nat.zero_le _⟩ dX13_runScript_56 (fun M15 h => ?_)
    refine ra_aload_n E dX13_runScript_59 rfl 0 rfl ?_
    refine ra_callVV (rest := []) E (c_X13_record _ _ h) lq_13 cv_X13_record ml_X13_251 (by decide) (lmM (by decide)) (fun R => ⟨_, cel_699 tc ad R⟩) rfl rfl rfl (Nat.le_of_ble_eq_true rfl) ⟨Nat.le_of_ble_eq_true rfl, Nat.le_of_ble_eq_true rfl⟩ ⟨Nat.zero_le _, Nat.zero_le _⟩ dX13_runScript_60 (fun M16 h => ?_)
    refine ra_aload_n E dX13_runScript_63 rfl 0 rfl ?_
    refine ra_iconst E dX13_runScript_64 ki_0 ?_
    refine pf_X13_27 E lm13 fl_X13_432 dX13_runScript_65 ?_
    replace h := h _ rfl
    refine ra_aload_n E dX13_runScript_68 rfl 0 rfl ?_
    refine ra_iconst E dX13_runScript_69 ki_0 ?_
    refine ra_aload_n E dX13_runScript_70 rfl 0 rfl ?_
    refine gf_X13_26 E lm13 fl_X13_408 dX13_runScript_71 ?_
    refine ra_callIV (rest := []) E (c_X13_areDoneC _ _ _ _ h) lq_13 cv_X13_areDone ml_X13_423 (by decide) (lmM (by decide)) (fun R => ⟨_, cel_699 tc ad R⟩) rfl rfl rfl (Nat.le_of_ble_eq_true rfl) ⟨Nat.le_of_ble_eq_true rfl, Nat.le_of_ble_eq_true rfl⟩ ⟨Nat.zero_le _, Nat.zero_le _⟩ dX13_runScript_74 (fun r19 M18 h => ?_)
    obtain ⟨b20, h⟩ := h
    refine ra_istore_n (L' := [(2, _), (0, _)]) E dX13_runScript_77 rfl (by decide) rfl ?_
    refine ra_aload_n E dX13_runScript_78 rfl 1 rfl ?_
    refine gf_X13_27 E lm13 fl_X13_432 dX13_runScript_79 ?_
    exact ra_iret E hr dX13_runScript_82 h
  · replace h := h.2 q14
    refine ra_iconst E dX13_runScript_53 ki_m1 ?_
    exact ra_iret E hr dX13_runScript_54 h
def f_X13_runScript_L24 (p1 : Int32) (K : Int32 → TM → Prop) : Nat → TM → Prop
  | 0, _ => False
  | n + 1, M => ((¬ (M 699 20) = 0 → f_X13_runScript_L46 p1 K M) ∧ ((M 699 20) = 0 → (((M 699 19) = 0 → f_X13_runScript_L46 p1 K M) ∧ (¬ (M 699 19) = 0 → f_X13_readCommandC (0 : Int32) M (fun M22 => f_X13_runScript_L24 p1 K n M22)))))
set_option maxRecDepth 100000 in
set_option maxHeartbeats 4000000 in
theorem l_X13_runScript_L24 {p : Program} {l : Launch} {e : Env} {s : State} {m : MethodId} {args : Array Value} {below : List Frame} {meth : Method} {c : Code} {D : va_G} {tc : Nat → ClassId} {ad : Nat → Nat} (p1 : Int32) {K : Int32 → TM → Prop} (E : Ev p s m args meth c D tc ad RX13 cX13_runScript 3) (hr : meth.sig.returnType = (some .int)) : ∀ (n : Nat)  (M : TM) , f_X13_runScript_L24 p1 K n  M → Wa p l e (rmD 16) s m args below meth c 0 0 (MQ below (va_Qi K (EndW D tc ad) (A0 ad s.heap.size)) args s 0 0 (A0 ad s.heap.size)) D tc ad 3 M 24 [(0, .ref (ad 699))] [] := by
  intro n
  induction n with
  | zero => intro  M  h; exact h.elim
  | succ n ih =>
    intro  M  h
    unfold f_X13_runScript_L24 at h
    refine ra_aload_n E dX13_runScript_24 rfl 0 rfl ?_
    refine gf_X13_20 E lm13 fl_X13_323 dX13_runScript_25 ?_
    refine ra_if_ne (tgt := 46) E dX13_runScript_28 (by decide) (fun q10 => ?_) (fun q10 => ?_)
    · replace h := h.1 q10
      exact ra_sub (L' := [(0, _)]) [0] rfl (l_X13_runScript_L46 p1 E hr _ h)
    · replace h := h.2 q10
      refine ra_aload_n E dX13_runScript_31 rfl 0 rfl ?_
      refine gf_X13_19 E lm13 fl_X13_314 dX13_runScript_32 ?_
      refine ra_if_eq (tgt := 46) E dX13_runScript_35 (by decide) (fun q21 => ?_) (fun q21 => ?_)
      · replace h := h.1 q21
        exact ra_sub (L' := [(0, _)]) [0] rfl (l_X13_runScript_L46 p1 E hr _ h)
      · replace h := h.2 q21
        refine ra_aload_n E dX13_runScript_38 rfl 0 rfl ?_
        refine ra_iconst E dX13_runScript_39 ki_0 ?_
        refine ra_callVV (rest := []) E (c_X13_readCommandC _ _ _ h) lq_13 cv_X13_readCommand ml_X13_405 (by decide) (lmM (by decide)) (fun R => ⟨_, cel_699 tc ad R⟩) rfl rfl rfl (Nat.le_of_ble_eq_true rfl) ⟨Nat.le_of_ble_eq_true rfl, Nat.le_of_ble_eq_true rfl⟩ ⟨Nat.zero_le _, Nat.zero_le _⟩ dX13_runScript_40 (fun M22 h => ?_)
        refine ra_goto (tgt := 24) E dX13_runScript_43 (by decide) ?_
        exact ra_sub (L' := [(0, _)]) [0] rfl (ih _ h)
def f_X13_runScript (p1 : Int32) (M : TM) (K : Int32 → TM → Prop) : Prop := f_X13_isLength p1 M (fun r2 M1 => f_X13_lacks r2 M1 (fun r5 M4 => ((r5 = 0 → ∀ M8, M8 = u2 M4 699 26 (0 : Int32) → f_X13_startText p1 M8 (fun M9 => ∃ n, f_X13_runScript_L24 p1 K n M9)) ∧ (¬ r5 = 0 → K (0 : Int32) M4))))
set_option maxRecDepth 100000 in
set_option maxHeartbeats 4000000 in
theorem c_X13_runScript {ad : Nat → Nat} (p1 : Int32) (M : TM) (K : Int32 → TM → Prop) (h : f_X13_runScript p1 M K) : MI yX13_runScript cX13_runScript 3 (some .int) 16 ad [.ref (ad 699), .int p1] M K := by
  refine MI_of RX13 rfl (by decide +kernel) (Nat.le_of_ble_eq_true rfl) (fun p l e s m below meth c D tc E hr => ?_)
  unfold f_X13_runScript at h
  refine ra_aload_n E dX13_runScript_0 rfl 0 rfl ?_
  refine ra_aload_n E dX13_runScript_1 rfl 0 rfl ?_
  refine ra_iload_n E dX13_runScript_2 rfl 1 rfl ?_
  refine ra_callIV (rest := [_]) E (c_X13_isLength _ _ _ h) lq_13 cv_X13_isLength ml_X13_392 (by decide) (lmM (by decide)) (fun R => ⟨_, cel_699 tc ad R⟩) rfl rfl rfl (Nat.le_of_ble_eq_true rfl) ⟨Nat.le_of_ble_eq_true rfl, Nat.le_of_ble_eq_true rfl⟩ ⟨Nat.zero_le _, Nat.zero_le _⟩ dX13_runScript_3 (fun r2 M1 h => ?_)
  obtain ⟨b3, h⟩ := h
  refine ra_callIV (rest := []) E (c_X13_lacks _ _ _ h) lq_13 cv_X13_lacks ml_X13_82 (by decide) (lmM (by decide)) (fun R => ⟨_, cel_699 tc ad R⟩) rfl rfl rfl (Nat.le_of_ble_eq_true rfl) ⟨Nat.le_of_ble_eq_true rfl, Nat.le_of_ble_eq_true rfl⟩ ⟨Nat.zero_le _, Nat.zero_le _⟩ dX13_runScript_6 (fun r5 M4 h => ?_)
  obtain ⟨b6, h⟩ := h
  refine ra_if_eq (tgt := 14) E dX13_runScript_9 (by decide) (fun q7 => ?_) (fun q7 => ?_)
  · replace h := h.1 q7
    refine ra_aload_n E dX13_runScript_14 rfl 0 rfl ?_
    refine ra_iconst E dX13_runScript_15 ki_0 ?_
    refine pf_X13_26 E lm13 fl_X13_408 dX13_runScript_16 ?_
    replace h := h _ rfl
    refine ra_aload_n E dX13_runScript_19 rfl 0 rfl ?_
    refine ra_iload_n E dX13_runScript_20 rfl 1 rfl ?_
    refine ra_callVV (rest := []) E (c_X13_startText _ _ _ h) lq_13 cv_X13_startText ml_X13_395 (by decide) (lmM (by decide)) (fun R => ⟨_, cel_699 tc ad R⟩) rfl rfl rfl (Nat.le_of_ble_eq_true rfl) ⟨Nat.le_of_ble_eq_true rfl, Nat.le_of_ble_eq_true rfl⟩ ⟨Nat.zero_le _, Nat.zero_le _⟩ dX13_runScript_21 (fun M9 h => ?_)
    obtain ⟨n23, h⟩ := h
    exact ra_sub (L' := [(0, _)]) [0] rfl (l_X13_runScript_L24 p1 E hr n23 _ h)
  · replace h := h.2 q7
    refine ra_iconst E dX13_runScript_12 ki_0 ?_
    exact ra_iret E hr dX13_runScript_13 h
def f_L_minutesToTarget (p1 : Int32) (M : TM) (K : Int32 → TM → Prop) : Prop := f_X12_minutesToTarget p1 M (fun r2 M1 => ∀ M4, M4 = u2 M1 710 0 r2 → K (0 : Int32) M4) (fun E9 M3 => (E9 = "java/lang/IndexOutOfBoundsException" ∧ K (1 : Int32) M3))
set_option maxRecDepth 100000 in
set_option maxHeartbeats 4000000 in
theorem c_L_minutesToTarget {ad : Nat → Nat} (p1 : Int32) (M : TM) (K : Int32 → TM → Prop) (h : f_L_minutesToTarget p1 M K) : XW yL_minutesToTarget cL_minutesToTarget 4 (some .int) [(0, 9, 12, 18)] 8 1 ad [.ref (ad 0), .int p1, .ref (ad 710)] M K := by
  refine XW_of RL rfl (by decide +kernel) (Nat.le_of_ble_eq_true rfl) (fun p l e s m below meth c D tc E hr hfl hTab => ?_)
  unfold f_L_minutesToTarget at h
  refine ra_aload_n E dL_minutesToTarget_0 rfl 2 rfl ?_
  refine ra_iconst E dL_minutesToTarget_1 ki_0 ?_
  refine ra_aload_n E dL_minutesToTarget_2 rfl 0 rfl ?_
  refine ra_iload_n E dL_minutesToTarget_3 rfl 1 rfl ?_
  refine rx_callIVH (rest := [_, _]) E hfl (c_X12_minutesToTarget _ _ _ _ h) (lq_X12 _) cv_X12_minutesToTarget ml_L_103 (by decide) (lm (by decide)) (fun R => ⟨_, cel_0 tc ad R⟩) rfl rfl rfl (Nat.le_of_ble_eq_true rfl) ⟨Nat.le_of_ble_eq_true rfl, Nat.le_of_ble_eq_true rfl⟩ ⟨Nat.le_of_ble_eq_true rfl, Nat.le_of_ble_eq_true rfl⟩ dL_minutesToTarget_4 (fun E9 M3 hX => ?_) (fun r2 M1 h => ?_)
  · obtain ⟨rfl, h⟩ := hX
    · exact rx_catch hTab E [] [] ⟨0, 9, 12, 18⟩ rfl (fun _ hz => absurd hz List.not_mem_nil) (by decide +kernel) (by decide) kl_18 (by decide +kernel) (fun q5 => by
        refine ra_astore_n (L' := [(3, _), (0, _), (1, _), (2, _)]) E dL_minutesToTarget_12 rfl (by decide) rfl ?_
        refine ra_iconst E dL_minutesToTarget_13 ki_1 ?_
        exact rx_iret E hr dL_minutesToTarget_14 ⟨Nat.le_of_ble_eq_true rfl, Nat.le_of_ble_eq_true rfl⟩ h
        )
  · skip
    refine ra_i2l E dL_minutesToTarget_7 rfl ?_
    refine ra_last E (Nat.le_of_ble_eq_true rfl) rfl dL_minutesToTarget_8 ?_
    replace h := h _ rfl
    refine ra_goto (tgt := 15) E dL_minutesToTarget_9 (by decide) ?_
    refine ra_iconst E dL_minutesToTarget_15 ki_0 ?_
    exact rx_iret E hr dL_minutesToTarget_16 ⟨Nat.le_of_ble_eq_true rfl, Nat.le_of_ble_eq_true rfl⟩ h
def f_L_willBeEaten (p1 : Int32) (M : TM) (K : Int32 → TM → Prop) : Prop := f_X12_willBeEaten p1 M (fun r2 M1 => ((r2 = 0 → ∀ M5, M5 = u2 M1 710 0 (0 : Int32) → K (0 : Int32) M5) ∧ (¬ r2 = 0 → ∀ M6, M6 = u2 M1 710 0 (1 : Int32) → K (0 : Int32) M6))) (fun E9 M3 => (E9 = "java/lang/IndexOutOfBoundsException" ∧ K (1 : Int32) M3))
set_option maxRecDepth 100000 in
set_option maxHeartbeats 4000000 in
theorem c_L_willBeEaten {ad : Nat → Nat} (p1 : Int32) (M : TM) (K : Int32 → TM → Prop) (h : f_L_willBeEaten p1 M K) : XW yL_willBeEaten cL_willBeEaten 4 (some .int) [(0, 16, 19, 18)] 8 1 ad [.ref (ad 0), .int p1, .ref (ad 710)] M K := by
  refine XW_of RL rfl (by decide +kernel) (Nat.le_of_ble_eq_true rfl) (fun p l e s m below meth c D tc E hr hfl hTab => ?_)
  unfold f_L_willBeEaten at h
  refine ra_aload_n E dL_willBeEaten_0 rfl 2 rfl ?_
  refine ra_iconst E dL_willBeEaten_1 ki_0 ?_
  refine ra_aload_n E dL_willBeEaten_2 rfl 0 rfl ?_
  refine ra_iload_n E dL_willBeEaten_3 rfl 1 rfl ?_
  refine rx_callIVH (rest := [_, _]) E hfl (c_X12_willBeEaten _ _ _ _ h) (lq_X12 _) cv_X12_willBeEaten ml_L_106 (by decide) (lm (by decide)) (fun R => ⟨_, cel_0 tc ad R⟩) rfl rfl rfl (Nat.le_of_ble_eq_true rfl) ⟨Nat.le_of_ble_eq_true rfl, Nat.le_of_ble_eq_true rfl⟩ ⟨Nat.le_of_ble_eq_true rfl, Nat.le_of_ble_eq_true rfl⟩ dL_willBeEaten_4 (fun E9 M3 hX => ?_) (fun r2 M1 h => ?_)
  · obtain ⟨rfl, h⟩ := hX
    · exact rx_catch hTab E [] [] ⟨0, 16, 19, 18⟩ rfl (fun _ hz => absurd hz List.not_mem_nil) (by decide +kernel) (by decide) kl_18 (by decide +kernel) (fun q7 => by
        refine ra_astore_n (L' := [(3, _), (0, _), (1, _), (2, _)]) E dL_willBeEaten_19 rfl (by decide) rfl ?_
        refine ra_iconst E dL_willBeEaten_20 ki_1 ?_
        exact rx_iret E hr dL_willBeEaten_21 ⟨Nat.le_of_ble_eq_true rfl, Nat.le_of_ble_eq_true rfl⟩ h
        )
  · obtain ⟨b9, h⟩ := h
    refine ra_if_eq (tgt := 14) E dL_willBeEaten_7 (by decide) (fun q4 => ?_) (fun q4 => ?_)
    · replace h := h.1 q4
      refine ra_lconst (v := (0 : Int32).toInt64) E dL_willBeEaten_14 (by decide +kernel) ?_
      refine ra_last E (Nat.le_of_ble_eq_true rfl) rfl dL_willBeEaten_15 ?_
      replace h := h _ rfl
      refine ra_goto (tgt := 22) E dL_willBeEaten_16 (by decide) ?_
      refine ra_iconst E dL_willBeEaten_22 ki_0 ?_
      exact rx_iret E hr dL_willBeEaten_23 ⟨Nat.le_of_ble_eq_true rfl, Nat.le_of_ble_eq_true rfl⟩ h
    · replace h := h.2 q4
      refine ra_lconst (v := (1 : Int32).toInt64) E dL_willBeEaten_10 (by decide +kernel) ?_
      refine ra_goto (tgt := 15) E dL_willBeEaten_11 (by decide) ?_
      refine ra_last E (Nat.le_of_ble_eq_true rfl) rfl dL_willBeEaten_15 ?_
      replace h := h _ rfl
      refine ra_goto (tgt := 22) E dL_willBeEaten_16 (by decide) ?_
      refine ra_iconst E dL_willBeEaten_22 ki_0 ?_
      exact rx_iret E hr dL_willBeEaten_23 ⟨Nat.le_of_ble_eq_true rfl, Nat.le_of_ble_eq_true rfl⟩ h
def f_L_coinsAfter (p1 : Int32) (M : TM) (K : Int32 → TM → Prop) : Prop := f_X12_coinsAfter p1 M (fun r2 M1 => ∀ M4, M4 = u2 M1 710 0 r2 → K (0 : Int32) M4) (fun E9 M3 => (E9 = "java/lang/IllegalArgumentException" ∧ K (1 : Int32) M3))
set_option maxRecDepth 100000 in
set_option maxHeartbeats 4000000 in
theorem c_L_coinsAfter {ad : Nat → Nat} (p1 : Int32) (M : TM) (K : Int32 → TM → Prop) (h : f_L_coinsAfter p1 M K) : XW yL_coinsAfter cL_coinsAfter 4 (some .int) [(0, 9, 12, 13)] 8 1 ad [.ref (ad 0), .int p1, .ref (ad 710)] M K := by
  refine XW_of RL rfl (by decide +kernel) (Nat.le_of_ble_eq_true rfl) (fun p l e s m below meth c D tc E hr hfl hTab => ?_)
  unfold f_L_coinsAfter at h
  refine ra_aload_n E dL_coinsAfter_0 rfl 2 rfl ?_
  refine ra_iconst E dL_coinsAfter_1 ki_0 ?_
  refine ra_aload_n E dL_coinsAfter_2 rfl 0 rfl ?_
  refine ra_iload_n E dL_coinsAfter_3 rfl 1 rfl ?_
  refine rx_callIVH (rest := [_, _]) E hfl (c_X12_coinsAfter _ _ _ _ h) (lq_X12 _) cv_X12_coinsAfter ml_L_109 (by decide) (lm (by decide)) (fun R => ⟨_, cel_0 tc ad R⟩) rfl rfl rfl (Nat.le_of_ble_eq_true rfl) ⟨Nat.le_of_ble_eq_true rfl, Nat.le_of_ble_eq_true rfl⟩ ⟨Nat.le_of_ble_eq_true rfl, Nat.le_of_ble_eq_true rfl⟩ dL_coinsAfter_4 (fun E9 M3 hX => ?_) (fun r2 M1 h => ?_)
  · obtain ⟨rfl, h⟩ := hX
    · exact rx_catch hTab E [] [] ⟨0, 9, 12, 13⟩ rfl (fun _ hz => absurd hz List.not_mem_nil) (by decide +kernel) (by decide) kl_13 (by decide +kernel) (fun q5 => by
        refine ra_astore_n (L' := [(3, _), (0, _), (1, _), (2, _)]) E dL_coinsAfter_12 rfl (by decide) rfl ?_
        refine ra_iconst E dL_coinsAfter_13 ki_1 ?_
        exact rx_iret E hr dL_coinsAfter_14 ⟨Nat.le_of_ble_eq_true rfl, Nat.le_of_ble_eq_true rfl⟩ h
        )
  · skip
    refine ra_i2l E dL_coinsAfter_7 rfl ?_
    refine ra_last E (Nat.le_of_ble_eq_true rfl) rfl dL_coinsAfter_8 ?_
    replace h := h _ rfl
    refine ra_goto (tgt := 15) E dL_coinsAfter_9 (by decide) ?_
    refine ra_iconst E dL_coinsAfter_15 ki_0 ?_
    exact rx_iret E hr dL_coinsAfter_16 ⟨Nat.le_of_ble_eq_true rfl, Nat.le_of_ble_eq_true rfl⟩ h
def f_L_passMinutes (p1 : Int32) (M : TM) (K : Int32 → TM → Prop) : Prop := f_X12_passMinutes p1 M (fun r2 M1 => ∀ M4, M4 = u2 M1 710 0 r2 → K (0 : Int32) M4) (fun E9 M3 => (E9 = "java/lang/IllegalArgumentException" ∧ K (1 : Int32) M3) ∨ (E9 = "java/lang/IllegalStateException" ∧ K (2 : Int32) M3))
set_option maxRecDepth 100000 in
set_option maxHeartbeats 4000000 in
theorem c_L_passMinutes {ad : Nat → Nat} (p1 : Int32) (M : TM) (K : Int32 → TM → Prop) (h : f_L_passMinutes p1 M K) : XW yL_passMinutes cL_passMinutes 4 (some .int) [(0, 9, 12, 13), (0, 9, 15, 118)] 8 2 ad [.ref (ad 0), .int p1, .ref (ad 710)] M K := by
  refine XW_of RL rfl (by decide +kernel) (Nat.le_of_ble_eq_true rfl) (fun p l e s m below meth c D tc E hr hfl hTab => ?_)
  unfold f_L_passMinutes at h
  refine ra_aload_n E dL_passMinutes_0 rfl 2 rfl ?_
  refine ra_iconst E dL_passMinutes_1 ki_0 ?_
  refine ra_aload_n E dL_passMinutes_2 rfl 0 rfl ?_
  refine ra_iload_n E dL_passMinutes_3 rfl 1 rfl ?_
  refine rx_callIVH (rest := [_, _]) E hfl (c_X12_passMinutes _ _ _ _ h) (lq_X12 _) cv_X12_passMinutes ml_L_139 (by decide) (lm (by decide)) (fun R => ⟨_, cel_0 tc ad R⟩) rfl rfl rfl (Nat.le_of_ble_eq_true rfl) ⟨Nat.le_of_ble_eq_true rfl, Nat.le_of_ble_eq_true rfl⟩ ⟨Nat.le_of_ble_eq_true rfl, Nat.le_of_ble_eq_true rfl⟩ dL_passMinutes_4 (fun E9 M3 hX => ?_) (fun r2 M1 h => ?_)
  · rcases hX with ⟨rfl, h⟩ | ⟨rfl, h⟩
    · exact rx_catch hTab E [] [⟨0, 9, 15, 118⟩] ⟨0, 9, 12, 13⟩ rfl (fun _ hz => absurd hz List.not_mem_nil) (by decide +kernel) (by decide) kl_13 (by decide +kernel) (fun q5 => by
        refine ra_astore_n (L' := [(3, _), (0, _), (1, _), (2, _)]) E dL_passMinutes_12 rfl (by decide) rfl ?_
        refine ra_iconst E dL_passMinutes_13 ki_1 ?_
        exact rx_iret E hr dL_passMinutes_14 ⟨Nat.le_of_ble_eq_true rfl, Nat.le_of_ble_eq_true rfl⟩ h
        )
    · exact rx_catch hTab E [⟨0, 9, 12, 13⟩] [] ⟨0, 9, 15, 118⟩ rfl (List.forall_mem_cons.mpr ⟨Or.inr ⟨by decide, "java/lang/IllegalArgumentException", kl_13, E.2.2.2.2.2.2.2.1.2.2.2.2.2.2.2 _ (by decide +kernel) _ (by decide +kernel) (by decide +kernel)⟩, (fun _ hz => absurd hz List.not_mem_nil)⟩) (by decide +kernel) (by decide) kl_118 (by decide +kernel) (fun q6 => by
        refine ra_astore_n (L' := [(3, _), (0, _), (1, _), (2, _)]) E dL_passMinutes_15 rfl (by decide) rfl ?_
        refine ra_iconst E dL_passMinutes_16 ki_2 ?_
        exact rx_iret E hr dL_passMinutes_17 ⟨Nat.le_of_ble_eq_true rfl, Nat.le_of_ble_eq_true rfl⟩ h
        )
  · skip
    refine ra_i2l E dL_passMinutes_7 rfl ?_
    refine ra_last E (Nat.le_of_ble_eq_true rfl) rfl dL_passMinutes_8 ?_
    replace h := h _ rfl
    refine ra_goto (tgt := 18) E dL_passMinutes_9 (by decide) ?_
    refine ra_iconst E dL_passMinutes_18 ki_0 ?_
    exact rx_iret E hr dL_passMinutes_19 ⟨Nat.le_of_ble_eq_true rfl, Nat.le_of_ble_eq_true rfl⟩ h
def f_X8_executeBlock_L6 (fc : Nat → Int32 → Int32 → TM → (Int32 → TM → Prop) → Prop) (a1 : Nat) (p2 : Int32) (p3 : Int32) (p4 : Int32) (K : Int32 → TM → Prop) : Nat → Int32 → Int32 → Int32 → Int32 → TM → Prop
  | 0, _, _, _, _, _ => False
  | n + 1, x3, x4, x5, x6, M => ((x3 ≤ x6 → K (1 : Int32) M) ∧ (¬ x3 ≤ x6 → (((20 : Int32) ≤ x6 → K (1 : Int32) M) ∧ (¬ (20 : Int32) ≤ x6 → ((x5 ≤ x6 → vp_in x6 20 ∧ vp_in (M (5 + x6.toNatClampNeg) 0) 9 ∧ ((¬ (M (5 + x6.toNatClampNeg) 0) = (8 : Int32) → f_X8_isPossible a1 (5 + x6.toNatClampNeg) M (fun r8 M7 => ((r8 = 0 → K (0 : Int32) M7) ∧ (¬ r8 = 0 → f_X8_execute a1 (5 + x6.toNatClampNeg) M7 (fun M11 => ∀ M12, M12 = u2 M11 3 2 ((M11 3 2) + (1 : Int32)) → f_X8_executeBlock_L6 fc a1 p2 p3 p4 K n x3 x4 (M (5 + x6.toNatClampNeg) 5) (x6 + 1) M12))))) ∧ ((M (5 + x6.toNatClampNeg) 0) = (8 : Int32) → fc a1 x6 (x4 + (1 : Int32)) M (fun r14 M13 => ((¬ r14 = 0 → f_X8_executeBlock_L6 fc a1 p2 p3 p4 K n x3 x4 (M (5 + x6.toNatClampNeg) 5) (x6 + 1) M13) ∧ (r14 = 0 → K (0 : Int32) M13)))))) ∧ (¬ x5 ≤ x6 → f_X8_executeBlock_L6 fc a1 p2 p3 p4 K n x3 x4 x5 (x6 + 1) M))))))
set_option maxRecDepth 100000 in
set_option maxHeartbeats 4000000 in
theorem l_X8_executeBlock_L6 {p : Program} {l : Launch} {e : Env} {s : State} {m : MethodId} {args : Array Value} {below : List Frame} {meth : Method} {c : Code} {D : va_G} {tc : Nat → ClassId} {ad : Nat → Nat} (fc : Nat → Int32 → Int32 → TM → (Int32 → TM → Prop) → Prop) (dd : Nat) (hd : 4 ≤ dd) (hfc : ∀ (a1 : Nat) (h1 : IsCanal a1) (p2 : Int32) (p3 : Int32) (M : TM) (K : Int32 → TM → Prop), fc a1 p2 p3 M K → MI yX8_executeRepeat cX8_executeRepeat 6 (some .boolean) dd ad [.ref (ad 3), .ref (ad a1), .int p2, .int p3] M (fun r M' => (r = 0 ∨ r = 1) ∧ K r M')) (a1 : Nat) (h1 : IsCanal a1) (p2 : Int32) (p3 : Int32) (p4 : Int32) {K : Int32 → TM → Prop} (E : Ev p s m args meth c D tc ad RX8 cX8_executeBlock 8) (hr : meth.sig.returnType = (some .boolean)) : ∀ (n : Nat) (x3 : Int32) (x4 : Int32) (x5 : Int32) (x6 : Int32) (M : TM) , f_X8_executeBlock_L6 fc a1 p2 p3 p4 K n x3 x4 x5 x6 M → Wa p l e (rmD (dd + 1)) s m args below meth c 0 0 (MQ below (va_Qi (fun r M' => (r = 0 ∨ r = 1) ∧ K r M') (EndW D tc ad) (A0 ad s.heap.size)) args s 0 0 (A0 ad s.heap.size)) D tc ad 8 M 6 [(0, .ref (ad 3)), (1, .ref (ad a1)), (3, .int x3), (4, .int x4), (5, .int x5), (6, .int x6)] [] := by
  intro n
  induction n with
  | zero => intro x3 x4 x5 x6 M  h; exact h.elim
  | succ n ih =>
    intro x3 x4 x5 x6 M  h
    unfold f_X8_executeBlock_L6 at h
    refine ra_iload E dX8_executeBlock_6 5 rfl ?_
    refine ra_iload_n E dX8_executeBlock_8 rfl 2 rfl ?_
    refine ra_icmp_ge (tgt := 111) E dX8_executeBlock_9 (by decide) (fun q1 => ?_) (fun q1 => ?_)
    · replace h := h.1 q1
      refine ra_iconst E dX8_executeBlock_111 ki_1 ?_
      exact ra_zret E hr rfl dX8_executeBlock_112 ⟨Or.inr rfl, h⟩
    · replace h := h.2 q1
      refine ra_iload E dX8_executeBlock_12 5 rfl ?_
      refine ra_aload_n E dX8_executeBlock_14 rfl 0 rfl ?_
      refine gf_X8_0 E fl_X8_11 dX8_executeBlock_15 ?_
      refine ra_alen (n := 20) (v := 20) E (lm (by decide)) (fun R => ⟨_, (cel_4 tc ad) R, rfl⟩) rfl (by decide) dX8_executeBlock_18 ?_
      refine ra_icmp_ge (tgt := 111) E dX8_executeBlock_19 (by decide) (fun q2 => ?_) (fun q2 => ?_)
      · replace h := h.1 q2
        refine ra_iconst E dX8_executeBlock_111 ki_1 ?_
        exact ra_zret E hr rfl dX8_executeBlock_112 ⟨Or.inr rfl, h⟩
      · replace h := h.2 q2
        refine ra_iload E dX8_executeBlock_22 5 rfl ?_
        refine ra_iload E dX8_executeBlock_24 4 rfl ?_
        refine ra_icmp_ge (tgt := 32) E dX8_executeBlock_26 (by decide) (fun q3 => ?_) (fun q3 => ?_)
        · replace h := h.1 q3
          refine ra_aload_n E dX8_executeBlock_32 rfl 0 rfl ?_
          refine gf_X8_0 E fl_X8_11 dX8_executeBlock_33 ?_
          refine ra_iload E dX8_executeBlock_36 5 rfl ?_
          obtain ⟨g4, h⟩ := h
          refine ra_aald E (lm (by decide)) (cel_4 tc ad) rfl g4 dX8_executeBlock_38 ?_
          refine ra_astore (L' := [(7, _), (0, _), (1, _), (3, _), (4, _), (5, _), (6, _)]) E dX8_executeBlock_39 (by decide) rfl ?_
          refine ra_aload E dX8_executeBlock_41 0 rfl ?_
          refine gf_X4_5 E (isCmd_of g4) fl_X8_70 dX8_executeBlock_43 ?_
          refine ra_istore (L' := [(5, _), (7, _), (0, _), (1, _), (3, _), (4, _), (6, _)]) E dX8_executeBlock_46 (by decide) rfl ?_
          refine ra_aload E dX8_executeBlock_48 1 rfl ?_
          refine gf_X4_0 E (isCmd_of g4) fl_X8_63 dX8_executeBlock_50 ?_
          refine gs_V (i := 8) E 8 (by decide) rfl (by decide) fl_X8_54 dX8_executeBlock_53 ?_
          obtain ⟨g6, h⟩ := h
          refine acmpV_ne (tgt := 75) E g6 (vpl _ _ (by decide)) dX8_executeBlock_56 (by decide) (fun q5 => ?_) (fun q5 => ?_)
          · replace h := h.1 q5
            refine ra_aload_n E dX8_executeBlock_75 rfl 3 rfl ?_
            refine ra_aload E dX8_executeBlock_76 1 rfl ?_
            refine ra_callIS (rest := []) E (c_X8_isPossible _ h1 _ (isCmd_of g4) _ _ h) (lq_X8 _) ct_X8_isPossible ml_X8_119 (by decide) rfl rfl (Nat.le_of_ble_eq_true rfl) (rR hd (Nat.le_of_ble_eq_true rfl)) ⟨Nat.zero_le _, Nat.zero_le _⟩ dX8_executeBlock_78 (fun r8 M7 h => ?_)
            obtain ⟨b9, h⟩ := h
            refine ra_if_eq (tgt := 103) E dX8_executeBlock_81 (by decide) (fun q10 => ?_) (fun q10 => ?_)
            · replace h := h.1 q10
              refine ra_iconst E dX8_executeBlock_103 ki_0 ?_
              exact ra_zret E hr rfl dX8_executeBlock_104 ⟨Or.inl rfl, h⟩
            · replace h := h.2 q10
              refine ra_aload_n E dX8_executeBlock_84 rfl 3 rfl ?_
              refine ra_aload E dX8_executeBlock_85 1 rfl ?_
              refine ra_callVS (rest := []) E (c_X8_execute _ h1 _ (isCmd_of g4) _ _ h) (lq_X8 _) ct_X8_execute ml_X8_123 (by decide) rfl rfl (Nat.le_of_ble_eq_true rfl) (rR hd (Nat.le_of_ble_eq_true rfl)) ⟨Nat.zero_le _, Nat.zero_le _⟩ dX8_executeBlock_87 (fun M11 h => ?_)
              refine ra_aload_n E dX8_executeBlock_90 rfl 2 rfl ?_
              refine ra_dup E dX8_executeBlock_91 rfl ?_
              refine gf_X8_2 E fl_X8_21 dX8_executeBlock_92 ?_
              refine ra_iconst E dX8_executeBlock_95 ki_1 ?_
              refine ra_iadd E dX8_executeBlock_96 ?_
              refine pf_X8_2 E fl_X8_21 dX8_executeBlock_97 ?_
              replace h := h _ rfl
              refine ra_goto (tgt := 105) E dX8_executeBlock_100 (by decide) ?_
              refine ra_iinc1 (L' := [(6, _), (5, _), (7, _), (0, _), (1, _), (3, _), (4, _)]) E dX8_executeBlock_105 6 rfl (by decide) rfl ?_
              refine ra_goto (tgt := 6) E dX8_executeBlock_108 (by decide) ?_
              exact ra_sub (L' := [(0, _), (1, _), (3, _), (4, _), (5, _), (6, _)]) [3, 4, 5, 6, 1, 0] rfl (ih _ _ _ _ _ h)
          · replace h := h.2 q5
            refine ra_aload_n E dX8_executeBlock_59 rfl 2 rfl ?_
            refine ra_aload_n E dX8_executeBlock_60 rfl 3 rfl ?_
            refine ra_iload E dX8_executeBlock_61 6 rfl ?_
            refine ra_iload E dX8_executeBlock_63 5 rfl ?_
            refine ra_iconst E dX8_executeBlock_65 ki_1 ?_
            refine ra_iadd E dX8_executeBlock_66 ?_
            refine ra_callIV (rest := []) E (hfc _ h1 _ _ _ _ h) (lq_X8 _) cv_X8_executeRepeat ml_X8_115 (by decide) (lm (by decide)) (fun R => ⟨_, cel_3 tc ad R⟩) rfl rfl rfl (Nat.le_of_ble_eq_true rfl) ⟨Nat.le_refl _, Nat.le_refl _⟩ ⟨Nat.zero_le _, Nat.zero_le _⟩ dX8_executeBlock_67 (fun r14 M13 h => ?_)
            obtain ⟨b15, h⟩ := h
            refine ra_if_ne (tgt := 105) E dX8_executeBlock_70 (by decide) (fun q16 => ?_) (fun q16 => ?_)
            · replace h := h.1 q16
              refine ra_iinc1 (L' := [(6, _), (5, _), (7, _), (0, _), (1, _), (3, _), (4, _)]) E dX8_executeBlock_105 6 rfl (by decide) rfl ?_
              refine ra_goto (tgt := 6) E dX8_executeBlock_108 (by decide) ?_
              exact ra_sub (L' := [(0, _), (1, _), (3, _), (4, _), (5, _), (6, _)]) [3, 4, 5, 6, 1, 0] rfl (ih _ _ _ _ _ h)
            · replace h := h.2 q16
              refine ra_iconst E dX8_executeBlock_73 ki_0 ?_
              exact ra_zret E hr rfl dX8_executeBlock_74 ⟨Or.inl rfl, h⟩
        · replace h := h.2 q3
          refine ra_goto (tgt := 105) E dX8_executeBlock_29 (by decide) ?_
          refine ra_iinc1 (L' := [(6, _), (0, _), (1, _), (3, _), (4, _), (5, _)]) E dX8_executeBlock_105 5 rfl (by decide) rfl ?_
          refine ra_goto (tgt := 6) E dX8_executeBlock_108 (by decide) ?_
          exact ra_sub (L' := [(0, _), (1, _), (3, _), (4, _), (5, _), (6, _)]) [1, 2, 3, 4, 5, 0] rfl (ih _ _ _ _ _ h)
def f_X8_executeBlock (fc : Nat → Int32 → Int32 → TM → (Int32 → TM → Prop) → Prop) (a1 : Nat) (p2 : Int32) (p3 : Int32) (p4 : Int32) (M : TM) (K : Int32 → TM → Prop) : Prop := ∃ n, f_X8_executeBlock_L6 fc a1 p2 p3 p4 K n p3 p4 p2 p2 M
set_option maxRecDepth 100000 in
set_option maxHeartbeats 4000000 in
theorem c_X8_executeBlock {ad : Nat → Nat} (fc : Nat → Int32 → Int32 → TM → (Int32 → TM → Prop) → Prop) (dd : Nat) (hd : 4 ≤ dd) (hfc : ∀ (a1 : Nat) (h1 : IsCanal a1) (p2 : Int32) (p3 : Int32) (M : TM) (K : Int32 → TM → Prop), fc a1 p2 p3 M K → MI yX8_executeRepeat cX8_executeRepeat 6 (some .boolean) dd ad [.ref (ad 3), .ref (ad a1), .int p2, .int p3] M (fun r M' => (r = 0 ∨ r = 1) ∧ K r M')) (a1 : Nat) (h1 : IsCanal a1) (p2 : Int32) (p3 : Int32) (p4 : Int32) (M : TM) (K : Int32 → TM → Prop) (h : f_X8_executeBlock fc a1 p2 p3 p4 M K) : MI yX8_executeBlock cX8_executeBlock 8 (some .boolean) (dd + 1) ad [.ref (ad 3), .ref (ad a1), .int p2, .int p3, .int p4] M (fun r M' => (r = 0 ∨ r = 1) ∧ K r M') := by
  refine MI_of RX8 rfl (by decide +kernel) (Nat.le_of_ble_eq_true rfl) (fun p l e s m below meth c D tc E hr => ?_)
  unfold f_X8_executeBlock at h
  refine ra_iload_n E dX8_executeBlock_0 rfl 2 rfl ?_
  refine ra_istore (L' := [(5, _), (0, _), (1, _), (2, _), (3, _), (4, _)]) E dX8_executeBlock_1 (by decide) rfl ?_
  refine ra_iload_n E dX8_executeBlock_3 rfl 3 rfl ?_
  refine ra_istore (L' := [(6, _), (5, _), (0, _), (1, _), (2, _), (3, _), (4, _)]) E dX8_executeBlock_4 (by decide) rfl ?_
  obtain ⟨n17, h⟩ := h
  exact ra_sub (L' := [(0, _), (1, _), (3, _), (4, _), (5, _), (6, _)]) [2, 3, 5, 6, 1, 0] rfl (l_X8_executeBlock_L6 fc dd hd hfc a1 h1 p2 p3 p4 E hr n17 _ _ _ _ _ h)
def f_X8_executeRepeat_L31 (fc : Nat → Int32 → Int32 → Int32 → TM → (Int32 → TM → Prop) → Prop) (a1 : Nat) (p2 : Int32) (p3 : Int32) (K : Int32 → TM → Prop) : Nat → Int32 → Int32 → Nat → Int32 → TM → Prop
  | 0, _, _, _, _, _ => False
  | n + 1, x2, x3, x4, x5, M => (((M x4 1) ≤ x5 → K (1 : Int32) M) ∧ (¬ (M x4 1) ≤ x5 → fc a1 (x2 + (1 : Int32)) (M x4 5) x3 M (fun r7 M6 => ((¬ r7 = 0 → f_X8_executeRepeat_L31 fc a1 p2 p3 K n x2 x3 x4 (x5 + 1) M6) ∧ (r7 = 0 → K (0 : Int32) M6)))))
set_option maxRecDepth 100000 in
set_option maxHeartbeats 4000000 in
theorem l_X8_executeRepeat_L31 {p : Program} {l : Launch} {e : Env} {s : State} {m : MethodId} {args : Array Value} {below : List Frame} {meth : Method} {c : Code} {D : va_G} {tc : Nat → ClassId} {ad : Nat → Nat} (fc : Nat → Int32 → Int32 → Int32 → TM → (Int32 → TM → Prop) → Prop) (dd : Nat) (hd : 4 ≤ dd) (hfc : ∀ (a1 : Nat) (h1 : IsCanal a1) (p2 : Int32) (p3 : Int32) (p4 : Int32) (M : TM) (K : Int32 → TM → Prop), fc a1 p2 p3 p4 M K → MI yX8_executeBlock cX8_executeBlock 8 (some .boolean) dd ad [.ref (ad 3), .ref (ad a1), .int p2, .int p3, .int p4] M (fun r M' => (r = 0 ∨ r = 1) ∧ K r M')) (a1 : Nat) (h1 : IsCanal a1) (p2 : Int32) (p3 : Int32) {K : Int32 → TM → Prop} (E : Ev p s m args meth c D tc ad RX8 cX8_executeRepeat 6) (hr : meth.sig.returnType = (some .boolean)) : ∀ (n : Nat) (x2 : Int32) (x3 : Int32) (x4 : Nat) (x5 : Int32) (M : TM) (gx4 : IsCmd x4), f_X8_executeRepeat_L31 fc a1 p2 p3 K n x2 x3 x4 x5 M → Wa p l e (rmD (dd + 1)) s m args below meth c 0 0 (MQ below (va_Qi (fun r M' => (r = 0 ∨ r = 1) ∧ K r M') (EndW D tc ad) (A0 ad s.heap.size)) args s 0 0 (A0 ad s.heap.size)) D tc ad 6 M 31 [(0, .ref (ad 3)), (1, .ref (ad a1)), (2, .int x2), (3, .int x3), (4, .ref (ad x4)), (5, .int x5)] [] := by
  intro n
  induction n with
  | zero => intro x2 x3 x4 x5 M gx4 h; exact h.elim
  | succ n ih =>
    intro x2 x3 x4 x5 M gx4 h
    unfold f_X8_executeRepeat_L31 at h
    refine ra_iload E dX8_executeRepeat_31 5 rfl ?_
    refine ra_aload E dX8_executeRepeat_33 4 rfl ?_
    refine gf_X4_1 E gx4 fl_X8_99 dX8_executeRepeat_35 ?_
    refine ra_icmp_ge (tgt := 66) E dX8_executeRepeat_38 (by decide) (fun q5 => ?_) (fun q5 => ?_)
    · replace h := h.1 q5
      refine ra_iconst E dX8_executeRepeat_66 ki_1 ?_
      exact ra_zret E hr rfl dX8_executeRepeat_67 ⟨Or.inr rfl, h⟩
    · replace h := h.2 q5
      refine ra_aload_n E dX8_executeRepeat_41 rfl 0 rfl ?_
      refine ra_aload_n E dX8_executeRepeat_42 rfl 1 rfl ?_
      refine ra_iload_n E dX8_executeRepeat_43 rfl 2 rfl ?_
      refine ra_iconst E dX8_executeRepeat_44 ki_1 ?_
      refine ra_iadd E dX8_executeRepeat_45 ?_
      refine ra_aload E dX8_executeRepeat_46 4 rfl ?_
      refine gf_X4_5 E gx4 fl_X8_70 dX8_executeRepeat_48 ?_
      refine ra_iload_n E dX8_executeRepeat_51 rfl 3 rfl ?_
      refine ra_callIV (rest := []) E (hfc _ h1 _ _ _ _ _ h) (lq_X8 _) cv_X8_executeBlock ml_X8_111 (by decide) (lm (by decide)) (fun R => ⟨_, cel_3 tc ad R⟩) rfl rfl rfl (Nat.le_of_ble_eq_true rfl) ⟨Nat.le_refl _, Nat.le_refl _⟩ ⟨Nat.zero_le _, Nat.zero_le _⟩ dX8_executeRepeat_52 (fun r7 M6 h => ?_)
      obtain ⟨b8, h⟩ := h
      refine ra_if_ne (tgt := 60) E dX8_executeRepeat_55 (by decide) (fun q9 => ?_) (fun q9 => ?_)
      · replace h := h.1 q9
        refine ra_iinc1 (L' := [(5, _), (0, _), (1, _), (2, _), (3, _), (4, _)]) E dX8_executeRepeat_60 5 rfl (by decide) rfl ?_
        refine ra_goto (tgt := 31) E dX8_executeRepeat_63 (by decide) ?_
        exact ra_sub (L' := [(0, _), (1, _), (2, _), (3, _), (4, _), (5, _)]) [1, 2, 3, 4, 5, 0] rfl (ih _ _ _ _ _ gx4 h)
      · replace h := h.2 q9
        refine ra_iconst E dX8_executeRepeat_58 ki_0 ?_
        exact ra_zret E hr rfl dX8_executeRepeat_59 ⟨Or.inl rfl, h⟩
def f_X8_executeRepeat (fc : Nat → Int32 → Int32 → Int32 → TM → (Int32 → TM → Prop) → Prop) (a1 : Nat) (p2 : Int32) (p3 : Int32) (M : TM) (K : Int32 → TM → Prop) : Prop := (((2 : Int32) < p3 → K (0 : Int32) M) ∧ (¬ (2 : Int32) < p3 → ((p2 < 0 → K (0 : Int32) M) ∧ (¬ p2 < 0 → ((p2 < (20 : Int32) → vp_in p2 20 ∧ ∃ n, f_X8_executeRepeat_L31 fc a1 p2 p3 K n p2 p3 (5 + p2.toNatClampNeg) (0 : Int32) M) ∧ (¬ p2 < (20 : Int32) → K (0 : Int32) M))))))
set_option maxRecDepth 100000 in
set_option maxHeartbeats 4000000 in
theorem c_X8_executeRepeat {ad : Nat → Nat} (fc : Nat → Int32 → Int32 → Int32 → TM → (Int32 → TM → Prop) → Prop) (dd : Nat) (hd : 4 ≤ dd) (hfc : ∀ (a1 : Nat) (h1 : IsCanal a1) (p2 : Int32) (p3 : Int32) (p4 : Int32) (M : TM) (K : Int32 → TM → Prop), fc a1 p2 p3 p4 M K → MI yX8_executeBlock cX8_executeBlock 8 (some .boolean) dd ad [.ref (ad 3), .ref (ad a1), .int p2, .int p3, .int p4] M (fun r M' => (r = 0 ∨ r = 1) ∧ K r M')) (a1 : Nat) (h1 : IsCanal a1) (p2 : Int32) (p3 : Int32) (M : TM) (K : Int32 → TM → Prop) (h : f_X8_executeRepeat fc a1 p2 p3 M K) : MI yX8_executeRepeat cX8_executeRepeat 6 (some .boolean) (dd + 1) ad [.ref (ad 3), .ref (ad a1), .int p2, .int p3] M (fun r M' => (r = 0 ∨ r = 1) ∧ K r M') := by
  refine MI_of RX8 rfl (by decide +kernel) (Nat.le_of_ble_eq_true rfl) (fun p l e s m below meth c D tc E hr => ?_)
  unfold f_X8_executeRepeat at h
  refine ra_iload_n E dX8_executeRepeat_0 rfl 3 rfl ?_
  refine ra_iconst E dX8_executeRepeat_1 ki_2 ?_
  refine ra_icmp_gt (tgt := 18) E dX8_executeRepeat_2 (by decide) (fun q1 => ?_) (fun q1 => ?_)
  · replace h := h.1 q1
    refine ra_iconst E dX8_executeRepeat_18 ki_0 ?_
    exact ra_zret E hr rfl dX8_executeRepeat_19 ⟨Or.inl rfl, h⟩
  · replace h := h.2 q1
    refine ra_iload_n E dX8_executeRepeat_5 rfl 2 rfl ?_
    refine ra_if_lt (tgt := 18) E dX8_executeRepeat_6 (by decide) (fun q2 => ?_) (fun q2 => ?_)
    · replace h := h.1 q2
      refine ra_iconst E dX8_executeRepeat_18 ki_0 ?_
      exact ra_zret E hr rfl dX8_executeRepeat_19 ⟨Or.inl rfl, h⟩
    · replace h := h.2 q2
      refine ra_iload_n E dX8_executeRepeat_9 rfl 2 rfl ?_
      refine ra_aload_n E dX8_executeRepeat_10 rfl 0 rfl ?_
      refine gf_X8_0 E fl_X8_11 dX8_executeRepeat_11 ?_
      refine ra_alen (n := 20) (v := 20) E (lm (by decide)) (fun R => ⟨_, (cel_4 tc ad) R, rfl⟩) rfl (by decide) dX8_executeRepeat_14 ?_
      refine ra_icmp_lt (tgt := 20) E dX8_executeRepeat_15 (by decide) (fun q3 => ?_) (fun q3 => ?_)
      · replace h := h.1 q3
        refine ra_aload_n E dX8_executeRepeat_20 rfl 0 rfl ?_
        refine gf_X8_0 E fl_X8_11 dX8_executeRepeat_21 ?_
        refine ra_iload_n E dX8_executeRepeat_24 rfl 2 rfl ?_
        obtain ⟨g4, h⟩ := h
        refine ra_aald E (lm (by decide)) (cel_4 tc ad) rfl g4 dX8_executeRepeat_25 ?_
        refine ra_astore (L' := [(4, _), (0, _), (1, _), (2, _), (3, _)]) E dX8_executeRepeat_26 (by decide) rfl ?_
        refine ra_iconst E dX8_executeRepeat_28 ki_0 ?_
        refine ra_istore (L' := [(5, _), (4, _), (0, _), (1, _), (2, _), (3, _)]) E dX8_executeRepeat_29 (by decide) rfl ?_
        obtain ⟨n10, h⟩ := h
        exact ra_sub (L' := [(0, _), (1, _), (2, _), (3, _), (4, _), (5, _)]) [2, 3, 4, 5, 1, 0] rfl (l_X8_executeRepeat_L31 fc dd hd hfc a1 h1 p2 p3 E hr n10 _ _ _ _ _ (isCmd_of g4) h)
      · replace h := h.2 q3
        refine ra_iconst E dX8_executeRepeat_18 ki_0 ?_
        exact ra_zret E hr rfl dX8_executeRepeat_19 ⟨Or.inl rfl, h⟩
def f_X8_executeRepeatR : Nat → Nat → Int32 → Int32 → TM → (Int32 → TM → Prop) → Prop
  | 0 => fun _ _ _ _ _ => False
  | k + 1 => fun a1 p2 p3 M K => f_X8_executeRepeat (fun a1 p2 p3 p4 M K => f_X8_executeBlock (f_X8_executeRepeatR k) a1 p2 p3 p4 M K) a1 p2 p3 M K
theorem c_X8_executeRepeatR {ad : Nat → Nat} : ∀ (k : Nat) (a1 : Nat) (h1 : IsCanal a1) (p2 : Int32) (p3 : Int32) (M : TM) (K : Int32 → TM → Prop), f_X8_executeRepeatR k a1 p2 p3 M K → MI yX8_executeRepeat cX8_executeRepeat 6 (some .boolean) (4 + 2 * k) ad [.ref (ad 3), .ref (ad a1), .int p2, .int p3] M (fun r M' => (r = 0 ∨ r = 1) ∧ K r M') := by
  intro k
  induction k with
  | zero => intro a1 h1 p2 p3 M K h; exact h.elim
  | succ k ih => intro a1 h1 p2 p3 M K h; exact c_X8_executeRepeat (fun a1 p2 p3 p4 M K => f_X8_executeBlock (f_X8_executeRepeatR k) a1 p2 p3 p4 M K) (4 + 2 * k + 1) (by omega) (fun a1 h1 p2 p3 p4 M K h => c_X8_executeBlock (f_X8_executeRepeatR k) (4 + 2 * k) (by omega) ih a1 h1 p2 p3 p4 M K h) a1 h1 p2 p3 M K h
def f_X8_executeBlockC (a1 : Nat) (p2 : Int32) (p3 : Int32) (p4 : Int32) (M : TM) (K : Int32 → TM → Prop) : Prop := f_X8_executeBlock (f_X8_executeRepeatR 3) a1 p2 p3 p4 M K
theorem c_X8_executeBlockC {ad : Nat → Nat} (a1 : Nat) (h1 : IsCanal a1) (p2 : Int32) (p3 : Int32) (p4 : Int32) (M : TM) (K : Int32 → TM → Prop) (h : f_X8_executeBlockC a1 p2 p3 p4 M K) : MI yX8_executeBlock cX8_executeBlock 8 (some .boolean) 11 ad [.ref (ad 3), .ref (ad a1), .int p2, .int p3, .int p4] M (fun r M' => (r = 0 ∨ r = 1) ∧ K r M') := c_X8_executeBlock (f_X8_executeRepeatR 3) 10 (by omega) (c_X8_executeRepeatR 3) a1 h1 p2 p3 p4 M K h
def f_X8_executeRepeatC (a1 : Nat) (p2 : Int32) (p3 : Int32) (M : TM) (K : Int32 → TM → Prop) : Prop := f_X8_executeRepeatR 3 a1 p2 p3 M K
theorem c_X8_executeRepeatC {ad : Nat → Nat} (a1 : Nat) (h1 : IsCanal a1) (p2 : Int32) (p3 : Int32) (M : TM) (K : Int32 → TM → Prop) (h : f_X8_executeRepeatC a1 p2 p3 M K) : MI yX8_executeRepeat cX8_executeRepeat 6 (some .boolean) 10 ad [.ref (ad 3), .ref (ad a1), .int p2, .int p3] M (fun r M' => (r = 0 ∨ r = 1) ∧ K r M') := c_X8_executeRepeatR 3 a1 h1 p2 p3 M K h
def f_X3_parseSections_L2 (a1 : Nat) (K : TM → Prop) : Nat → Int32 → TM → Prop
  | 0, _, _ => False
  | n + 1, x2, M => (((500 : Int32) ≤ x2 → K M) ∧ (¬ (500 : Int32) ≤ x2 → f_X10_isAtWord 10 M (fun r3 M2 => ((r3 = 0 → f_X10_isAtWord 11 M2 (fun r7 M6 => ((r7 = 0 → K M6) ∧ (¬ r7 = 0 → f_X3_parseBridge a1 M6 (fun M10 => f_X3_parseSections_L2 a1 K n (x2 + 1) M10))))) ∧ (¬ r3 = 0 → f_X3_parseLock a1 M2 (fun M11 => f_X3_parseSections_L2 a1 K n (x2 + 1) M11))))))
set_option maxRecDepth 100000 in
set_option maxHeartbeats 4000000 in
theorem l_X3_parseSections_L2 {p : Program} {l : Launch} {e : Env} {s : State} {m : MethodId} {args : Array Value} {below : List Frame} {meth : Method} {c : Code} {D : va_G} {tc : Nat → ClassId} {ad : Nat → Nat} (a1 : Nat) (h1 : IsCanal a1) {K : TM → Prop} (E : Ev p s m args meth c D tc ad RX3 cX3_parseSections 3) (hr : meth.sig.returnType = none) : ∀ (n : Nat) (x2 : Int32) (M : TM) , f_X3_parseSections_L2 a1 K n x2 M → Wa p l e (rmD 5) s m args below meth c 0 0 (MQ below (va_Qv K (EndW D tc ad) (A0 ad s.heap.size)) args s 0 0 (A0 ad s.heap.size)) D tc ad 3 M 2 [(0, .ref (ad 1)), (1, .ref (ad a1)), (2, .int x2)] [] := by
  intro n
  induction n with
  | zero => intro x2 M  h; exact h.elim
  | succ n ih =>
    intro x2 M  h
    unfold f_X3_parseSections_L2 at h
    refine ra_iload_n E dX3_parseSections_2 rfl 2 rfl ?_
    refine ra_sipush E dX3_parseSections_3 ks_500 ?_
    refine ra_icmp_ge (tgt := 50) E dX3_parseSections_6 (by decide) (fun q1 => ?_) (fun q1 => ?_)
    · replace h := h.1 q1
      exact ra_vret E hr dX3_parseSections_50 h
    · replace h := h.2 q1
      refine ra_aload_n E dX3_parseSections_9 rfl 0 rfl ?_
      refine ra_ldcS E sr_X3_42 dX3_parseSections_10 ?_
      refine ra_callIV (rest := []) E (c_X10_isAtWord _ (Nat.le_of_ble_eq_true rfl) _ _ h) (lq_X10 _) cv_X10_isAtWord ml_X3_44 (by decide) (lm (by decide)) (fun R => ⟨_, cel_1 tc ad R⟩) rfl rfl rfl (Nat.le_of_ble_eq_true rfl) ⟨Nat.le_of_ble_eq_true rfl, Nat.le_of_ble_eq_true rfl⟩ ⟨Nat.zero_le _, Nat.zero_le _⟩ dX3_parseSections_12 (fun r3 M2 h => ?_)
      obtain ⟨b4, h⟩ := h
      refine ra_if_eq (tgt := 26) E dX3_parseSections_15 (by decide) (fun q5 => ?_) (fun q5 => ?_)
      · replace h := h.1 q5
        refine ra_aload_n E dX3_parseSections_26 rfl 0 rfl ?_
        refine ra_ldcS E sr_X3_51 dX3_parseSections_27 ?_
        refine ra_callIV (rest := []) E (c_X10_isAtWord _ (Nat.le_of_ble_eq_true rfl) _ _ h) (lq_X10 _) cv_X10_isAtWord ml_X3_44 (by decide) (lm (by decide)) (fun R => ⟨_, cel_1 tc ad R⟩) rfl rfl rfl (Nat.le_of_ble_eq_true rfl) ⟨Nat.le_of_ble_eq_true rfl, Nat.le_of_ble_eq_true rfl⟩ ⟨Nat.zero_le _, Nat.zero_le _⟩ dX3_parseSections_29 (fun r7 M6 h => ?_)
        obtain ⟨b8, h⟩ := h
        refine ra_if_eq (tgt := 43) E dX3_parseSections_32 (by decide) (fun q9 => ?_) (fun q9 => ?_)
        · replace h := h.1 q9
          exact ra_vret E hr dX3_parseSections_43 h
        · replace h := h.2 q9
          refine ra_aload_n E dX3_parseSections_35 rfl 0 rfl ?_
          refine ra_aload_n E dX3_parseSections_36 rfl 1 rfl ?_
          refine ra_callVS (rest := []) E (c_X3_parseBridge _ h1 _ _ h) (lq_X3 _) ct_X3_parseBridge ml_X3_53 (by decide) rfl rfl (Nat.le_of_ble_eq_true rfl) ⟨Nat.le_of_ble_eq_true rfl, Nat.le_of_ble_eq_true rfl⟩ ⟨Nat.zero_le _, Nat.zero_le _⟩ dX3_parseSections_37 (fun M10 h => ?_)
          refine ra_goto (tgt := 44) E dX3_parseSections_40 (by decide) ?_
          refine ra_iinc1 (L' := [(2, _), (0, _), (1, _)]) E dX3_parseSections_44 2 rfl (by decide) rfl ?_
          refine ra_goto (tgt := 2) E dX3_parseSections_47 (by decide) ?_
          exact ra_sub (L' := [(0, _), (1, _), (2, _)]) [1, 2, 0] rfl (ih _ _ h)
      · replace h := h.2 q5
        refine ra_aload_n E dX3_parseSections_18 rfl 0 rfl ?_
        refine ra_aload_n E dX3_parseSections_19 rfl 1 rfl ?_
        refine ra_callVS (rest := []) E (c_X3_parseLock _ h1 _ _ h) (lq_X3 _) ct_X3_parseLock ml_X3_48 (by decide) rfl rfl (Nat.le_of_ble_eq_true rfl) ⟨Nat.le_of_ble_eq_true rfl, Nat.le_of_ble_eq_true rfl⟩ ⟨Nat.zero_le _, Nat.zero_le _⟩ dX3_parseSections_20 (fun M11 h => ?_)
        refine ra_goto (tgt := 44) E dX3_parseSections_23 (by decide) ?_
        refine ra_iinc1 (L' := [(2, _), (0, _), (1, _)]) E dX3_parseSections_44 2 rfl (by decide) rfl ?_
        refine ra_goto (tgt := 2) E dX3_parseSections_47 (by decide) ?_
        exact ra_sub (L' := [(0, _), (1, _), (2, _)]) [1, 2, 0] rfl (ih _ _ h)
def f_X3_parseSections (a1 : Nat) (M : TM) (K : TM → Prop) : Prop := ∃ n, f_X3_parseSections_L2 a1 K n (0 : Int32) M
set_option maxRecDepth 100000 in
set_option maxHeartbeats 4000000 in
theorem c_X3_parseSections {ad : Nat → Nat} (a1 : Nat) (h1 : IsCanal a1) (M : TM) (K : TM → Prop) (h : f_X3_parseSections a1 M K) : MV yX3_parseSections cX3_parseSections 3 5 ad [.ref (ad 1), .ref (ad a1)] M K := by
  refine MV_of RX3 rfl (by decide +kernel) (Nat.le_of_ble_eq_true rfl) (fun p l e s m below meth c D tc E hr => ?_)
  unfold f_X3_parseSections at h
  refine ra_iconst E dX3_parseSections_0 ki_0 ?_
  refine ra_istore_n (L' := [(2, _), (0, _), (1, _)]) E dX3_parseSections_1 rfl (by decide) rfl ?_
  obtain ⟨n12, h⟩ := h
  exact ra_sub (L' := [(0, _), (1, _), (2, _)]) [1, 2, 0] rfl (l_X3_parseSections_L2 a1 h1 E hr n12 _ _ h)
def f_X3_parseBarges_L16 (a1 : Nat) (K : TM → Prop) : Nat → Int32 → TM → Prop
  | 0, _, _ => False
  | n + 1, x2, M => (((5 : Int32) < x2 → K M) ∧ (¬ (5 : Int32) < x2 → f_X10_isAtWord 12 M (fun r7 M6 => ((r7 = 0 → K M6) ∧ (¬ r7 = 0 → ((¬ x2 = (5 : Int32) → f_X3_parseBarge a1 M6 (fun M11 => f_X3_parseBarges_L16 a1 K n (x2 + 1) M11)) ∧ (x2 = (5 : Int32) → f_X10_fail (4 : Int32) M6 (fun M12 => f_X3_parseBarges_L16 a1 K n (x2 + 1) M12))))))))
set_option maxRecDepth 100000 in
set_option maxHeartbeats 4000000 in
theorem l_X3_parseBarges_L16 {p : Program} {l : Launch} {e : Env} {s : State} {m : MethodId} {args : Array Value} {below : List Frame} {meth : Method} {c : Code} {D : va_G} {tc : Nat → ClassId} {ad : Nat → Nat} (a1 : Nat) (h1 : IsCanal a1) {K : TM → Prop} (E : Ev p s m args meth c D tc ad RX3 cX3_parseBarges 3) (hr : meth.sig.returnType = none) : ∀ (n : Nat) (x2 : Int32) (M : TM) , f_X3_parseBarges_L16 a1 K n x2 M → Wa p l e (rmD 5) s m args below meth c 0 0 (MQ below (va_Qv K (EndW D tc ad) (A0 ad s.heap.size)) args s 0 0 (A0 ad s.heap.size)) D tc ad 3 M 16 [(0, .ref (ad 1)), (1, .ref (ad a1)), (2, .int x2)] [] := by
  intro n
  induction n with
  | zero => intro x2 M  h; exact h.elim
  | succ n ih =>
    intro x2 M  h
    unfold f_X3_parseBarges_L16 at h
    refine ra_iload_n E dX3_parseBarges_16 rfl 2 rfl ?_
    refine ra_iconst E dX3_parseBarges_17 ki_5 ?_
    refine ra_icmp_gt (tgt := 54) E dX3_parseBarges_18 (by decide) (fun q5 => ?_) (fun q5 => ?_)
    · replace h := h.1 q5
      exact ra_vret E hr dX3_parseBarges_54 h
    · replace h := h.2 q5
      refine ra_aload_n E dX3_parseBarges_21 rfl 0 rfl ?_
      refine ra_ldcS E sr_X3_86 dX3_parseBarges_22 ?_
      refine ra_callIV (rest := []) E (c_X10_isAtWord _ (Nat.le_of_ble_eq_true rfl) _ _ h) (lq_X10 _) cv_X10_isAtWord ml_X3_44 (by decide) (lm (by decide)) (fun R => ⟨_, cel_1 tc ad R⟩) rfl rfl rfl (Nat.le_of_ble_eq_true rfl) ⟨Nat.le_of_ble_eq_true rfl, Nat.le_of_ble_eq_true rfl⟩ ⟨Nat.zero_le _, Nat.zero_le _⟩ dX3_parseBarges_24 (fun r7 M6 h => ?_)
      obtain ⟨b8, h⟩ := h
      refine ra_if_eq (tgt := 54) E dX3_parseBarges_27 (by decide) (fun q9 => ?_) (fun q9 => ?_)
      · replace h := h.1 q9
        exact ra_vret E hr dX3_parseBarges_54 h
      · replace h := h.2 q9
        refine ra_iload_n E dX3_parseBarges_30 rfl 2 rfl ?_
        refine ra_iconst E dX3_parseBarges_31 ki_5 ?_
        refine ra_icmp_ne (tgt := 43) E dX3_parseBarges_32 (by decide) (fun q10 => ?_) (fun q10 => ?_)
        · replace h := h.1 q10
          refine ra_aload_n E dX3_parseBarges_43 rfl 0 rfl ?_
          refine ra_aload_n E dX3_parseBarges_44 rfl 1 rfl ?_
          refine ra_callVS (rest := []) E (c_X3_parseBarge _ h1 _ _ h) (lq_X3 _) ct_X3_parseBarge ml_X3_91 (by decide) rfl rfl (Nat.le_of_ble_eq_true rfl) ⟨Nat.le_of_ble_eq_true rfl, Nat.le_of_ble_eq_true rfl⟩ ⟨Nat.zero_le _, Nat.zero_le _⟩ dX3_parseBarges_45 (fun M11 h => ?_)
          refine ra_iinc1 (L' := [(2, _), (0, _), (1, _)]) E dX3_parseBarges_48 2 rfl (by decide) rfl ?_
          refine ra_goto (tgt := 16) E dX3_parseBarges_51 (by decide) ?_
          exact ra_sub (L' := [(0, _), (1, _), (2, _)]) [1, 2, 0] rfl (ih _ _ h)
        · replace h := h.2 q10
          refine ra_aload_n E dX3_parseBarges_35 rfl 0 rfl ?_
          refine ra_iconst E dX3_parseBarges_36 ki_4 ?_
          refine ra_callVV (rest := []) E (c_X10_fail _ _ _ h) (lq_X10 _) cv_X10_fail ml_X3_88 (by decide) (lm (by decide)) (fun R => ⟨_, cel_1 tc ad R⟩) rfl rfl rfl (Nat.le_of_ble_eq_true rfl) ⟨Nat.le_of_ble_eq_true rfl, Nat.le_of_ble_eq_true rfl⟩ ⟨Nat.zero_le _, Nat.zero_le _⟩ dX3_parseBarges_37 (fun M12 h => ?_)
          refine ra_goto (tgt := 48) E dX3_parseBarges_40 (by decide) ?_
          refine ra_iinc1 (L' := [(2, _), (0, _), (1, _)]) E dX3_parseBarges_48 2 rfl (by decide) rfl ?_
          refine ra_goto (tgt := 16) E dX3_parseBarges_51 (by decide) ?_
          exact ra_sub (L' := [(0, _), (1, _), (2, _)]) [1, 2, 0] rfl (ih _ _ h)
def f_X3_parseBarges (a1 : Nat) (M : TM) (K : TM → Prop) : Prop := f_X10_isAtWord 12 M (fun r2 M1 => ((¬ r2 = 0 → ∃ n, f_X3_parseBarges_L16 a1 K n (0 : Int32) M1) ∧ (r2 = 0 → f_X10_fail (1 : Int32) M1 (fun M14 => ∃ n, f_X3_parseBarges_L16 a1 K n (0 : Int32) M14))))
set_option maxRecDepth 100000 in
set_option maxHeartbeats 4000000 in
theorem c_X3_parseBarges {ad : Nat → Nat} (a1 : Nat) (h1 : IsCanal a1) (M : TM) (K : TM → Prop) (h : f_X3_parseBarges a1 M K) : MV yX3_parseBarges cX3_parseBarges 3 5 ad [.ref (ad 1), .ref (ad a1)] M K := by
  refine MV_of RX3 rfl (by decide +kernel) (Nat.le_of_ble_eq_true rfl) (fun p l e s m below meth c D tc E hr => ?_)
  unfold f_X3_parseBarges at h
  refine ra_aload_n E dX3_parseBarges_0 rfl 0 rfl ?_
  refine ra_ldcS E sr_X3_86 dX3_parseBarges_1 ?_
  refine ra_callIV (rest := []) E (c_X10_isAtWord _ (Nat.le_of_ble_eq_true rfl) _ _ h) (lq_X10 _) cv_X10_isAtWord ml_X3_44 (by decide) (lm (by decide)) (fun R => ⟨_, cel_1 tc ad R⟩) rfl rfl rfl (Nat.le_of_ble_eq_true rfl) ⟨Nat.le_of_ble_eq_true rfl, Nat.le_of_ble_eq_true rfl⟩ ⟨Nat.zero_le _, Nat.zero_le _⟩ dX3_parseBarges_3 (fun r2 M1 h => ?_)
  obtain ⟨b3, h⟩ := h
  refine ra_if_ne (tgt := 14) E dX3_parseBarges_6 (by decide) (fun q4 => ?_) (fun q4 => ?_)
  · replace h := h.1 q4
    refine ra_iconst E dX3_parseBarges_14 ki_0 ?_
    refine ra_istore_n (L' := [(2, _), (0, _), (1, _)]) E dX3_parseBarges_15 rfl (by decide) rfl ?_
    obtain ⟨n13, h⟩ := h
    exact ra_sub (L' := [(0, _), (1, _), (2, _)]) [1, 2, 0] rfl (l_X3_parseBarges_L16 a1 h1 E hr n13 _ _ h)
  · replace h := h.2 q4
    refine ra_aload_n E dX3_parseBarges_9 rfl 0 rfl ?_
    refine ra_iconst E dX3_parseBarges_10 ki_1 ?_
    refine ra_callVV (rest := []) E (c_X10_fail _ _ _ h) (lq_X10 _) cv_X10_fail ml_X3_88 (by decide) (lm (by decide)) (fun R => ⟨_, cel_1 tc ad R⟩) rfl rfl rfl (Nat.le_of_ble_eq_true rfl) ⟨Nat.le_of_ble_eq_true rfl, Nat.le_of_ble_eq_true rfl⟩ ⟨Nat.zero_le _, Nat.zero_le _⟩ dX3_parseBarges_11 (fun M14 h => ?_)
    refine ra_iconst E dX3_parseBarges_14 ki_0 ?_
    refine ra_istore_n (L' := [(2, _), (0, _), (1, _)]) E dX3_parseBarges_15 rfl (by decide) rfl ?_
    obtain ⟨n15, h⟩ := h
    exact ra_sub (L' := [(0, _), (1, _), (2, _)]) [1, 2, 0] rfl (l_X3_parseBarges_L16 a1 h1 E hr n15 _ _ h)
