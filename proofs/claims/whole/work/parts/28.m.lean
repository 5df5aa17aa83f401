def f_X3_parseOrders_L2 (a1 : Nat) (K : TM → Prop) : Nat → Int32 → TM → Prop
  | 0, _, _ => False
  | n + 1, x2, M => (((30 : Int32) < x2 → K M) ∧ (¬ (30 : Int32) < x2 → f_X10_isAtWord 1 M (fun r3 M2 => ((r3 = 0 → K M2) ∧ (¬ r3 = 0 → ((¬ x2 = (30 : Int32) → f_X3_parseOrder a1 M2 (fun M7 => f_X3_parseOrders_L2 a1 K n (x2 + 1) M7)) ∧ (x2 = (30 : Int32) → f_X10_fail (4 : Int32) M2 (fun M8 => f_X3_parseOrders_L2 a1 K n (x2 + 1) M8))))))))
set_option maxRecDepth 100000 in
set_option maxHeartbeats 4000000 in
theorem l_X3_parseOrders_L2 {p : Program} {l : Launch} {e : Env} {s : State} {m : MethodId} {args : Array Value} {below : List Frame} {meth : Method} {c : Code} {D : va_G} {tc : Nat → ClassId} {ad : Nat → Nat} (a1 : Nat) (h1 : IsCanal a1) {K : TM → Prop} (E : Ev p s m args meth c D tc ad RX3 cX3_parseOrders 3) (hr : meth.sig.returnType = none) : ∀ (n : Nat) (x2 : Int32) (M : TM) , f_X3_parseOrders_L2 a1 K n x2 M → Wa p l e (rmD 5) s m args below meth c 0 0 (MQ below (va_Qv K (EndW D tc ad) (A0 ad s.heap.size)) args s 0 0 (A0 ad s.heap.size)) D tc ad 3 M 2 [(0, .ref (ad 1)), (1, .ref (ad a1)), (2, .int x2)] [] := by
  intro n
  induction n with
  | zero => intro x2 M  h; exact h.elim
  | succ n ih =>
    intro x2 M  h
    unfold f_X3_parseOrders_L2 at h
    refine ra_iload_n E dX3_parseOrders_2 rfl 2 rfl ?_
    refine ra_bipush E dX3_parseOrders_3 kb_30 ?_
    refine ra_icmp_gt (tgt := 42) E dX3_parseOrders_5 (by decide) (fun q1 => ?_) (fun q1 => ?_)
    · replace h := h.1 q1
      exact ra_vret E hr dX3_parseOrders_42 h
    · replace h := h.2 q1
      refine ra_aload_n E dX3_parseOrders_8 rfl 0 rfl ?_
      refine ra_ldcS E sr_X3_98 dX3_parseOrders_9 ?_
      refine ra_callIV (rest := []) E (c_X10_isAtWord _ (Nat.le_of_ble_eq_true rfl) _ _ h) (lq_X10 _) cv_X10_isAtWord ml_X3_44 (by decide) (lm (by decide)) (fun R => ⟨_, cel_1 tc ad R⟩) rfl rfl rfl (Nat.le_of_ble_eq_true rfl) ⟨Nat.le_of_ble_eq_true rfl, Nat.le_of_ble_eq_true rfl⟩ ⟨Nat.zero_le _, Nat.zero_le _⟩ dX3_parseOrders_11 (fun r3 M2 h => ?_)
      obtain ⟨b4, h⟩ := h
      refine ra_if_eq (tgt := 42) E dX3_parseOrders_14 (by decide) (fun q5 => ?_) (fun q5 => ?_)
      · replace h := h.1 q5
        exact ra_vret E hr dX3_parseOrders_42 h
      · replace h := h.2 q5
        refine ra_iload_n E dX3_parseOrders_17 rfl 2 rfl ?_
        refine ra_bipush E dX3_parseOrders_18 kb_30 ?_
        refine ra_icmp_ne (tgt := 31) E dX3_parseOrders_20 (by decide) (fun q6 => ?_) (fun q6 => ?_)
        · replace h := h.1 q6
          refine ra_aload_n E dX3_parseOrders_31 rfl 0 rfl ?_
          refine ra_aload_n E dX3_parseOrders_32 rfl 1 rfl ?_
          refine ra_callVS (rest := []) E (c_X3_parseOrder _ h1 _ _ h) (lq_X3 _) ct_X3_parseOrder ml_X3_100 (by decide) rfl rfl (Nat.le_of_ble_eq_true rfl) ⟨Nat.le_of_ble_eq_true rfl, Nat.le_of_ble_eq_true rfl⟩ ⟨Nat.zero_le _, Nat.zero_le _⟩ dX3_parseOrders_33 (fun M7 h => ?_)
          refine ra_iinc1 (L' := [(2, _), (0, _), (1, _)]) E dX3_parseOrders_36 2 rfl (by decide) rfl ?_
          refine ra_goto (tgt := 2) E dX3_parseOrders_39 (by decide) ?_
          exact ra_sub (L' := [(0, _), (1, _), (2, _)]) [1, 2, 0] rfl (ih _ _ h)
        · replace h := h.2 q6
          refine ra_aload_n E dX3_parseOrders_23 rfl 0 rfl ?_
          refine ra_iconst E dX3_parseOrders_24 ki_4 ?_
          refine ra_callVV (rest := []) E (c_X10_fail _ _ _ h) (lq_X10 _) cv_X10_fail ml_X3_88 (by decide) (lm (by decide)) (fun R => ⟨_, cel_1 tc ad R⟩) rfl rfl rfl (Nat.le_of_ble_eq_true rfl) ⟨Nat.le_of_ble_eq_true rfl, Nat.le_of_ble_eq_true rfl⟩ ⟨Nat.zero_le _, Nat.zero_le _⟩ dX3_parseOrders_25 (fun M8 h => ?_)
          refine ra_goto (tgt := 36) E dX3_parseOrders_28 (by decide) ?_
          refine ra_iinc1 (L' := [(2, _), (0, _), (1, _)]) E dX3_parseOrders_36 2 rfl (by decide) rfl ?_
          refine ra_goto (tgt := 2) E dX3_parseOrders_39 (by decide) ?_
          exact ra_sub (L' := [(0, _), (1, _), (2, _)]) [1, 2, 0] rfl (ih _ _ h)
def f_X3_parseOrders (a1 : Nat) (M : TM) (K : TM → Prop) : Prop := ∃ n, f_X3_parseOrders_L2 a1 K n (0 : Int32) M
set_option maxRecDepth 100000 in
set_option maxHeartbeats 4000000 in
theorem c_X3_parseOrders {ad : Nat → Nat} (a1 : Nat) (h1 : IsCanal a1) (M : TM) (K : TM → Prop) (h : f_X3_parseOrders a1 M K) : MV yX3_parseOrders cX3_parseOrders 3 5 ad [.ref (ad 1), .ref (ad a1)] M K := by
  refine MV_of RX3 rfl (by decide +kernel) (Nat.le_of_ble_eq_true rfl) (fun p l e s m below meth c D tc E hr => ?_)
  unfold f_X3_parseOrders at h
  refine ra_iconst E dX3_parseOrders_0 ki_0 ?_
  refine ra_istore_n (L' := [(2, _), (0, _), (1, _)]) E dX3_parseOrders_1 rfl (by decide) rfl ?_
  obtain ⟨n9, h⟩ := h
  exact ra_sub (L' := [(0, _), (1, _), (2, _)]) [1, 2, 0] rfl (l_X3_parseOrders_L2 a1 h1 E hr n9 _ _ h)
def f_X8_verbAt_L2  (K : Option Nat → TM → Prop) : Nat → Int32 → TM → Prop
  | 0, _, _ => False
  | n + 1, x1, M => (((9 : Int32) ≤ x1 → K none M) ∧ (¬ (9 : Int32) ≤ x1 → vp_in x1 9 ∧ f_X10_isAtWord (x1.toNatClampNeg) M (fun r4 M3 => ((r4 = 0 → f_X8_verbAt_L2 K n (x1 + 1) M3) ∧ (¬ r4 = 0 → vp_in x1 9 ∧ K (some (2100 + x1.toNatClampNeg)) M3)))))
set_option maxRecDepth 100000 in
set_option maxHeartbeats 4000000 in
theorem l_X8_verbAt_L2 {p : Program} {l : Launch} {e : Env} {s : State} {m : MethodId} {args : Array Value} {below : List Frame} {meth : Method} {c : Code} {D : va_G} {tc : Nat → ClassId} {ad : Nat → Nat}  {K : Option Nat → TM → Prop} (E : Ev p s m args meth c D tc ad RX8 cX8_verbAt 2) (hr : meth.sig.returnType = (some (.object "NoodleCanal$Verb"))) : ∀ (n : Nat) (x1 : Int32) (M : TM) , f_X8_verbAt_L2  K n x1 M → Wa p l e (rmD 5) s m args below meth c 0 0 (MQ below (va_QA K D tc ad (A0 ad s.heap.size)) args s 0 0 (A0 ad s.heap.size)) D tc ad 2 M 2 [(0, .ref (ad 1)), (1, .int x1)] [] := by
  intro n
  induction n with
  | zero => intro x1 M  h; exact h.elim
  | succ n ih =>
    intro x1 M  h
    unfold f_X8_verbAt_L2 at h
    refine ra_iload_n E dX8_verbAt_2 rfl 1 rfl ?_
    refine gs_verbs E rfl dX8_verbAt_3 ?_
    refine al_verbs E dX8_verbAt_6 ?_
    refine ra_icmp_ge (tgt := 37) E dX8_verbAt_7 (by decide) (fun q1 => ?_) (fun q1 => ?_)
    · replace h := h.1 q1
      refine ra_null E dX8_verbAt_37 ?_
      exact ra_aret (o := none) E hr dX8_verbAt_38 h
    · replace h := h.2 q1
      refine ra_aload_n E dX8_verbAt_10 rfl 0 rfl ?_
      refine gs_verbs E rfl dX8_verbAt_11 ?_
      refine ra_iload_n E dX8_verbAt_14 rfl 1 rfl ?_
      obtain ⟨g2, h⟩ := h
      refine aa_verbs E g2 dX8_verbAt_15 ?_
      refine gf_word E g2 fl_X8_77 dX8_verbAt_16 ?_
      refine ra_callIV (rest := []) E (c_X10_isAtWord _ (Nat.lt_of_lt_of_le (vp_lt g2) (by decide)) _ _ h) (lq_X10 _) cv_X10_isAtWord ml_X8_81 (by decide) (lm (by decide)) (fun R => ⟨_, cel_1 tc ad R⟩) rfl rfl rfl (Nat.le_of_ble_eq_true rfl) ⟨Nat.le_of_ble_eq_true rfl, Nat.le_of_ble_eq_true rfl⟩ ⟨Nat.zero_le _, Nat.zero_le _⟩ dX8_verbAt_19 (fun r4 M3 h => ?_)
      obtain ⟨b5, h⟩ := h
      refine ra_if_eq (tgt := 31) E dX8_verbAt_22 (by decide) (fun q6 => ?_) (fun q6 => ?_)
      · replace h := h.1 q6
        refine ra_iinc1 (L' := [(1, _), (0, _)]) E dX8_verbAt_31 1 rfl (by decide) rfl ?_
        refine ra_goto (tgt := 2) E dX8_verbAt_34 (by decide) ?_
        exact ra_sub (L' := [(0, _), (1, _)]) [1, 0] rfl (ih _ _ h)
      · replace h := h.2 q6
        refine gs_verbs E rfl dX8_verbAt_25 ?_
        refine ra_iload_n E dX8_verbAt_28 rfl 1 rfl ?_
        obtain ⟨g7, h⟩ := h
        refine aa_verbs E g7 dX8_verbAt_29 ?_
        exact ra_aret (o := (some (2100 + x1.toNatClampNeg))) E hr dX8_verbAt_30 h
def f_X8_verbAt  (M : TM) (K : Option Nat → TM → Prop) : Prop := ∃ n, f_X8_verbAt_L2 K n (0 : Int32) M
set_option maxRecDepth 100000 in
set_option maxHeartbeats 4000000 in
theorem c_X8_verbAt {ad : Nat → Nat}  (M : TM) (K : Option Nat → TM → Prop) (h : f_X8_verbAt  M K) : MA yX8_verbAt cX8_verbAt 2 (some (.object "NoodleCanal$Verb")) 5 ad [.ref (ad 1)] M K := by
  refine MA_of RX8 rfl (by decide +kernel) (Nat.le_of_ble_eq_true rfl) (fun p l e s m below meth c D tc E hr => ?_)
  unfold f_X8_verbAt at h
  refine ra_iconst E dX8_verbAt_0 ki_0 ?_
  refine ra_istore_n (L' := [(1, _), (0, _)]) E dX8_verbAt_1 rfl (by decide) rfl ?_
  obtain ⟨n8, h⟩ := h
  exact ra_sub (L' := [(0, _), (1, _)]) [1, 0] rfl (l_X8_verbAt_L2 E hr n8 _ _ h)
def f_X8_executeOn (a1 : Nat) (M : TM) (K : Int32 → TM → Prop) : Prop := ∀ M1, M1 = u2 M 3 2 (0 : Int32) → f_X8_executeBlockC a1 (0 : Int32) (M1 3 1) (0 : Int32) M1 (fun r3 M2 => K (M2 3 2) M2)
set_option maxRecDepth 100000 in
set_option maxHeartbeats 4000000 in
theorem c_X8_executeOn {ad : Nat → Nat} (a1 : Nat) (h1 : IsCanal a1) (M : TM) (K : Int32 → TM → Prop) (h : f_X8_executeOn a1 M K) : MI yX8_executeOn cX8_executeOn 2 (some .int) 12 ad [.ref (ad 3), .ref (ad a1)] M K := by
  refine MI_of RX8 rfl (by decide +kernel) (Nat.le_of_ble_eq_true rfl) (fun p l e s m below meth c D tc E hr => ?_)
  unfold f_X8_executeOn at h
  refine ra_aload_n E dX8_executeOn_0 rfl 0 rfl ?_
  refine ra_iconst E dX8_executeOn_1 ki_0 ?_
  refine pf_X8_2 E fl_X8_21 dX8_executeOn_2 ?_
  replace h := h _ rfl
  refine ra_aload_n E dX8_executeOn_5 rfl 0 rfl ?_
  refine ra_aload_n E dX8_executeOn_6 rfl 1 rfl ?_
  refine ra_iconst E dX8_executeOn_7 ki_0 ?_
  refine ra_aload_n E dX8_executeOn_8 rfl 0 rfl ?_
  refine gf_X8_1 E fl_X8_17 dX8_executeOn_9 ?_
  refine ra_iconst E dX8_executeOn_12 ki_0 ?_
  refine ra_callIV (rest := []) E (c_X8_executeBlockC _ h1 _ _ _ _ _ h) (lq_X8 _) cv_X8_executeBlock ml_X8_111 (by decide) (lm (by decide)) (fun R => ⟨_, cel_3 tc ad R⟩) rfl rfl rfl (Nat.le_of_ble_eq_true rfl) ⟨Nat.le_of_ble_eq_true rfl, Nat.le_of_ble_eq_true rfl⟩ ⟨Nat.zero_le _, Nat.zero_le _⟩ dX8_executeOn_13 (fun r3 M2 h => ?_)
  obtain ⟨b4, h⟩ := h
  refine ra_pop E dX8_executeOn_16 rfl ?_
  refine ra_aload_n E dX8_executeOn_17 rfl 0 rfl ?_
  refine gf_X8_2 E fl_X8_21 dX8_executeOn_18 ?_
  exact ra_iret E hr dX8_executeOn_21 h
def f_X8_parseBlock_L3 (fc : Int32 → TM → (TM → Prop) → Prop) (p2 : Int32) (p3 : Int32) (K : TM → Prop) : Nat → Int32 → Int32 → Int32 → TM → Prop
  | 0, _, _, _, _ => False
  | n + 1, x2, x3, x4, M => (((20 : Int32) < x4 → K M) ∧ (¬ (20 : Int32) < x4 → f_X10_isAt x2 M (fun r3 M2 => ((¬ r3 = 0 → K M2) ∧ (r3 = 0 → f_X10_failed M2 (fun r7 M6 => ((¬ r7 = 0 → K M6) ∧ (r7 = 0 → fc x3 M6 (fun M10 => f_X10_readToken (5 : Int32) M10 (fun M11 => f_X8_parseBlock_L3 fc p2 p3 K n x2 x3 (x4 + 1) M11))))))))))
set_option maxRecDepth 100000 in
set_option maxHeartbeats 4000000 in
theorem l_X8_parseBlock_L3 {p : Program} {l : Launch} {e : Env} {s : State} {m : MethodId} {args : Array Value} {below : List Frame} {meth : Method} {c : Code} {D : va_G} {tc : Nat → ClassId} {ad : Nat → Nat} (fc : Int32 → TM → (TM → Prop) → Prop) (dd : Nat) (hd : 5 ≤ dd) (hfc : ∀ (p2 : Int32) (M : TM) (K : TM → Prop), fc p2 M K → MV yX8_parseCommand cX8_parseCommand 5 dd ad [.ref (ad 3), .ref (ad 1), .int p2] M K) (p2 : Int32) (p3 : Int32) {K : TM → Prop} (E : Ev p s m args meth c D tc ad RX8 cX8_parseBlock 5) (hr : meth.sig.returnType = none) : ∀ (n : Nat) (x2 : Int32) (x3 : Int32) (x4 : Int32) (M : TM) , f_X8_parseBlock_L3 fc p2 p3 K n x2 x3 x4 M → Wa p l e (rmD (dd + 1)) s m args below meth c 0 0 (MQ below (va_Qv K (EndW D tc ad) (A0 ad s.heap.size)) args s 0 0 (A0 ad s.heap.size)) D tc ad 5 M 3 [(0, .ref (ad 3)), (1, .ref (ad 1)), (2, .int x2), (3, .int x3), (4, .int x4)] [] := by
  intro n
  induction n with
  | zero => intro x2 x3 x4 M  h; exact h.elim
  | succ n ih =>
    intro x2 x3 x4 M  h
    unfold f_X8_parseBlock_L3 at h
    refine ra_iload E dX8_parseBlock_3 4 rfl ?_
    refine ra_bipush E dX8_parseBlock_5 kb_20 ?_
    refine ra_icmp_gt (tgt := 42) E dX8_parseBlock_7 (by decide) (fun q1 => ?_) (fun q1 => ?_)
    · replace h := h.1 q1
      exact ra_vret E hr dX8_parseBlock_42 h
    · replace h := h.2 q1
      refine ra_aload_n E dX8_parseBlock_10 rfl 1 rfl ?_
      refine ra_iload_n E dX8_parseBlock_11 rfl 2 rfl ?_
      refine ra_callIV (rest := []) E (c_X10_isAt _ _ _ h) (lq_X10 _) cv_X10_isAt ml_X8_31 (by decide) (lm (by decide)) (fun R => ⟨_, cel_1 tc ad R⟩) rfl rfl rfl (Nat.le_of_ble_eq_true rfl) (rR hd (Nat.le_of_ble_eq_true rfl)) ⟨Nat.zero_le _, Nat.zero_le _⟩ dX8_parseBlock_12 (fun r3 M2 h => ?_)
      obtain ⟨b4, h⟩ := h
      refine ra_if_ne (tgt := 42) E dX8_parseBlock_15 (by decide) (fun q5 => ?_) (fun q5 => ?_)
      · replace h := h.1 q5
        exact ra_vret E hr dX8_parseBlock_42 h
      · replace h := h.2 q5
        refine ra_aload_n E dX8_parseBlock_18 rfl 1 rfl ?_
        refine ra_callIV (rest := []) E (c_X10_failed _ _ h) (lq_X10 _) cv_X10_failed ml_X8_35 (by decide) (lm (by decide)) (fun R => ⟨_, cel_1 tc ad R⟩) rfl rfl rfl (Nat.le_of_ble_eq_true rfl) (rR hd (Nat.le_of_ble_eq_true rfl)) ⟨Nat.zero_le _, Nat.zero_le _⟩ dX8_parseBlock_19 (fun r7 M6 h => ?_)
        obtain ⟨b8, h⟩ := h
        refine ra_if_ne (tgt := 42) E dX8_parseBlock_22 (by decide) (fun q9 => ?_) (fun q9 => ?_)
        · replace h := h.1 q9
          exact ra_vret E hr dX8_parseBlock_42 h
        · replace h := h.2 q9
          refine ra_aload_n E dX8_parseBlock_25 rfl 0 rfl ?_
          refine ra_aload_n E dX8_parseBlock_26 rfl 1 rfl ?_
          refine ra_iload_n E dX8_parseBlock_27 rfl 3 rfl ?_
          refine ra_callVV (rest := []) E (hfc _ _ _ h) (lq_X8 _) cv_X8_parseCommand ml_X8_39 (by decide) (lm (by decide)) (fun R => ⟨_, cel_3 tc ad R⟩) rfl rfl rfl (Nat.le_of_ble_eq_true rfl) ⟨Nat.le_refl _, Nat.le_refl _⟩ ⟨Nat.zero_le _, Nat.zero_le _⟩ dX8_parseBlock_28 (fun M10 h => ?_)
          refine ra_aload_n E dX8_parseBlock_31 rfl 1 rfl ?_
          refine ra_iconst E dX8_parseBlock_32 ki_5 ?_
          refine ra_callVV (rest := []) E (c_X10_readToken _ _ _ h) (lq_X10 _) cv_X10_readToken ml_X8_43 (by decide) (lm (by decide)) (fun R => ⟨_, cel_1 tc ad R⟩) rfl rfl rfl (Nat.le_of_ble_eq_true rfl) (rR hd (Nat.le_of_ble_eq_true rfl)) ⟨Nat.zero_le _, Nat.zero_le _⟩ dX8_parseBlock_33 (fun M11 h => ?_)
          refine ra_iinc1 (L' := [(4, _), (0, _), (1, _), (2, _), (3, _)]) E dX8_parseBlock_36 4 rfl (by decide) rfl ?_
          refine ra_goto (tgt := 3) E dX8_parseBlock_39 (by decide) ?_
          exact ra_sub (L' := [(0, _), (1, _), (2, _), (3, _), (4, _)]) [1, 2, 3, 4, 0] rfl (ih _ _ _ _ h)
def f_X8_parseBlock (fc : Int32 → TM → (TM → Prop) → Prop) (p2 : Int32) (p3 : Int32) (M : TM) (K : TM → Prop) : Prop := ∃ n, f_X8_parseBlock_L3 fc p2 p3 K n p2 p3 (0 : Int32) M
set_option maxRecDepth 100000 in
set_option maxHeartbeats 4000000 in
theorem c_X8_parseBlock {ad : Nat → Nat} (fc : Int32 → TM → (TM → Prop) → Prop) (dd : Nat) (hd : 5 ≤ dd) (hfc : ∀ (p2 : Int32) (M : TM) (K : TM → Prop), fc p2 M K → MV yX8_parseCommand cX8_parseCommand 5 dd ad [.ref (ad 3), .ref (ad 1), .int p2] M K) (p2 : Int32) (p3 : Int32) (M : TM) (K : TM → Prop) (h : f_X8_parseBlock fc p2 p3 M K) : MV yX8_parseBlock cX8_parseBlock 5 (dd + 1) ad [.ref (ad 3), .ref (ad 1), .int p2, .int p3] M K := by
  refine MV_of RX8 rfl (by decide +kernel) (Nat.le_of_ble_eq_true rfl) (fun p l e s m below meth c D tc E hr => ?_)
  unfold f_X8_parseBlock at h
  refine ra_iconst E dX8_parseBlock_0 ki_0 ?_
  refine ra_istore (L' := [(4, _), (0, _), (1, _), (2, _), (3, _)]) E dX8_parseBlock_1 (by decide) rfl ?_
  obtain ⟨n12, h⟩ := h
  exact ra_sub (L' := [(0, _), (1, _), (2, _), (3, _), (4, _)]) [1, 2, 3, 4, 0] rfl (l_X8_parseBlock_L3 fc dd hd hfc p2 p3 E hr n12 _ _ _ _ h)
def f_X8_parseCommand_L45 (fc : Int32 → Int32 → TM → (TM → Prop) → Prop) (p2 : Int32) (K : TM → Prop) (x2 : Int32) (x3 : Int32) (M : TM) : Prop := f_X10_advance M (fun M12 => vp_in (M12 3 1) 20 ∧ ∀ M14, M14 = u2 M12 3 1 ((M12 3 1) + (1 : Int32)) → ∀ M15, M15 = u2 M14 (5 + (M12 3 1).toNatClampNeg) 0 x3 → f_X8_parseNumbers (5 + (M12 3 1).toNatClampNeg) M15 (fun M16 => vp_in x3 9 ∧ ((¬ x3 = (8 : Int32) → ∀ M19, M19 = u2 M16 (5 + (M12 3 1).toNatClampNeg) 5 (M16 3 1) → K M19) ∧ (x3 = (8 : Int32) → f_X10_readToken (6 : Int32) M16 (fun M20 => fc (7 : Int32) (x2 + (1 : Int32)) M20 (fun M21 => f_X10_readToken (7 : Int32) M21 (fun M22 => ∀ M23, M23 = u2 M22 (5 + (M12 3 1).toNatClampNeg) 5 (M22 3 1) → K M23)))))))
set_option maxRecDepth 100000 in
set_option maxHeartbeats 4000000 in
theorem l_X8_parseCommand_L45 {p : Program} {l : Launch} {e : Env} {s : State} {m : MethodId} {args : Array Value} {below : List Frame} {meth : Method} {c : Code} {D : va_G} {tc : Nat → ClassId} {ad : Nat → Nat} (fc : Int32 → Int32 → TM → (TM → Prop) → Prop) (dd : Nat) (hd : 5 ≤ dd) (hfc : ∀ (p2 : Int32) (p3 : Int32) (M : TM) (K : TM → Prop), fc p2 p3 M K → MV yX8_parseBlock cX8_parseBlock 5 dd ad [.ref (ad 3), .ref (ad 1), .int p2, .int p3] M K) (p2 : Int32) {K : TM → Prop} (E : Ev p s m args meth c D tc ad RX8 cX8_parseCommand 5) (hr : meth.sig.returnType = none) : ∀ (x2 : Int32) (x3 : Int32) (M : TM) , f_X8_parseCommand_L45 fc p2 K x2 x3 M → Wa p l e (rmD (dd + 1)) s m args below meth c 0 0 (MQ below (va_Qv K (EndW D tc ad) (A0 ad s.heap.size)) args s 0 0 (A0 ad s.heap.size)) D tc ad 5 M 45 [(0, .ref (ad 3)), (1, .ref (ad 1)), (2, .int x2), (3, .ref (ad (2100 + x3.toNatClampNeg)))] [] := by
  intro x2 x3 M  h
  unfold f_X8_parseCommand_L45 at h
  refine ra_aload_n E dX8_parseCommand_45 rfl 1 rfl ?_
  refine ra_callVV (rest := []) E (c_X10_advance _ _ h) (lq_X10 _) cv_X10_advance ml_X8_60 (by decide) (lm (by decide)) (fun R => ⟨_, cel_1 tc ad R⟩) rfl rfl rfl (Nat.le_of_ble_eq_true rfl) (rR hd (Nat.le_of_ble_eq_true rfl)) ⟨Nat.zero_le _, Nat.zero_le _⟩ dX8_parseCommand_46 (fun M12 h => ?_)
  refine ra_aload_n E dX8_parseCommand_49 rfl 0 rfl ?_
  refine gf_X8_0 E fl_X8_11 dX8_parseCommand_50 ?_
  refine ra_aload_n E dX8_parseCommand_53 rfl 0 rfl ?_
  refine gf_X8_1 E fl_X8_17 dX8_parseCommand_54 ?_
  obtain ⟨g13, h⟩ := h
  refine ra_aald E (lm (by decide)) (cel_4 tc ad) rfl g13 dX8_parseCommand_57 ?_
  refine ra_astore (L' := [(4, _), (0, _), (1, _), (2, _), (3, _)]) E dX8_parseCommand_58 (by decide) rfl ?_
  refine ra_aload_n E dX8_parseCommand_60 rfl 1 rfl ?_
  refine ra_dup E dX8_parseCommand_61 rfl ?_
  refine gf_X8_1 E fl_X8_17 dX8_parseCommand_62 ?_
  refine ra_iconst E dX8_parseCommand_65 ki_1 ?_
  refine ra_iadd E dX8_parseCommand_66 ?_
  refine pf_X8_1 E fl_X8_17 dX8_parseCommand_67 ?_
  replace h := h _ rfl
  refine ra_aload E dX8_parseCommand_70 0 rfl ?_
  refine ra_aload_n E dX8_parseCommand_72 rfl 4 rfl ?_
  refine pf_X4_0 E (isCmd_of g13) _ rfl fl_X8_63 dX8_parseCommand_73 ?_
  replace h := h _ rfl
  refine ra_aload_n E dX8_parseCommand_76 rfl 2 rfl ?_
  refine ra_aload E dX8_parseCommand_77 0 rfl ?_
  refine ra_callVS (rest := []) E (c_X8_parseNumbers _ (isCmd_of g13) _ _ h) (lq_X8 _) ct_X8_parseNumbers ml_X8_66 (by decide) rfl rfl (Nat.le_of_ble_eq_true rfl) (rR hd (Nat.le_of_ble_eq_true rfl)) ⟨Nat.zero_le _, Nat.zero_le _⟩ dX8_parseCommand_79 (fun M16 h => ?_)
  refine ra_aload_n E dX8_parseCommand_82 rfl 4 rfl ?_
  refine gs_V (i := 8) E 8 (by decide) rfl (by decide) fl_X8_54 dX8_parseCommand_83 ?_
  obtain ⟨g18, h⟩ := h
  refine acmpV_ne (tgt := 111) E g18 (vpl _ _ (by decide)) dX8_parseCommand_86 (by decide) (fun q17 => ?_) (fun q17 => ?_)
  · replace h := h.1 q17
    refine ra_aload E dX8_parseCommand_111 0 rfl ?_
    refine ra_aload_n E dX8_parseCommand_113 rfl 1 rfl ?_
    refine gf_X8_1 E fl_X8_17 dX8_parseCommand_114 ?_
    refine pf_X4_5 E (isCmd_of g13) fl_X8_70 dX8_parseCommand_117 ?_
    replace h := h _ rfl
    exact ra_vret E hr dX8_parseCommand_120 h
  · replace h := h.2 q17
    refine ra_aload_n E dX8_parseCommand_89 rfl 2 rfl ?_
    refine ra_bipush E dX8_parseCommand_90 kb_6 ?_
    refine ra_callVV (rest := []) E (c_X10_readToken _ _ _ h) (lq_X10 _) cv_X10_readToken ml_X8_43 (by decide) (lm (by decide)) (fun R => ⟨_, cel_1 tc ad R⟩) rfl rfl rfl (Nat.le_of_ble_eq_true rfl) (rR hd (Nat.le_of_ble_eq_true rfl)) ⟨Nat.zero_le _, Nat.zero_le _⟩ dX8_parseCommand_92 (fun M20 h => ?_)
    refine ra_aload_n E dX8_parseCommand_95 rfl 1 rfl ?_
    refine ra_aload_n E dX8_parseCommand_96 rfl 2 rfl ?_
    refine ra_bipush E dX8_parseCommand_97 kb_7 ?_
    refine ra_iload_n E dX8_parseCommand_99 rfl 3 rfl ?_
    refine ra_iconst E dX8_parseCommand_100 ki_1 ?_
    refine ra_iadd E dX8_parseCommand_101 ?_
    refine ra_callVV (rest := []) E (hfc _ _ _ _ h) (lq_X8 _) cv_X8_parseBlock ml_X8_27 (by decide) (lm (by decide)) (fun R => ⟨_, cel_3 tc ad R⟩) rfl rfl rfl (Nat.le_of_ble_eq_true rfl) ⟨Nat.le_refl _, Nat.le_refl _⟩ ⟨Nat.zero_le _, Nat.zero_le _⟩ dX8_parseCommand_102 (fun M21 h => ?_)
    refine ra_aload_n E dX8_parseCommand_105 rfl 2 rfl ?_
    refine ra_bipush E dX8_parseCommand_106 kb_7 ?_
    refine ra_callVV (rest := []) E (c_X10_readToken _ _ _ h) (lq_X10 _) cv_X10_readToken ml_X8_43 (by decide) (lm (by decide)) (fun R => ⟨_, cel_1 tc ad R⟩) rfl rfl rfl (Nat.le_of_ble_eq_true rfl) (rR hd (Nat.le_of_ble_eq_true rfl)) ⟨Nat.zero_le _, Nat.zero_le _⟩ dX8_parseCommand_108 (fun M22 h => ?_)
    refine ra_aload E dX8_parseCommand_111 0 rfl ?_
    refine ra_aload_n E dX8_parseCommand_113 rfl 1 rfl ?_
    refine gf_X8_1 E fl_X8_17 dX8_parseCommand_114 ?_
    refine pf_X4_5 E (isCmd_of g13) fl_X8_70 dX8_parseCommand_117 ?_
    replace h := h _ rfl
    exact ra_vret E hr dX8_parseCommand_120 h
def f_X8_parseCommand (fc : Int32 → Int32 → TM → (TM → Prop) → Prop) (p2 : Int32) (M : TM) (K : TM → Prop) : Prop := f_X8_verbAt M (fun o2 M1 => (o2 = none ∨ ∃ x3, vp_in x3 9 ∧ o2 = some (2100 + x3.toNatClampNeg)) ∧ (o2 = none → f_X10_fail (1 : Int32) M1 (fun M8 => K M8)) ∧ (∀ x3, vp_in x3 9 → o2 = some (2100 + x3.toNatClampNeg) → (((20 : Int32) ≤ (M1 3 1) → f_X10_fail (4 : Int32) M1 (fun M10 => K M10)) ∧ (¬ (20 : Int32) ≤ (M1 3 1) → ((¬ x3 = (8 : Int32) → f_X8_parseCommand_L45 fc p2 K p2 x3 M1) ∧ (x3 = (8 : Int32) → ((p2 < (2 : Int32) → f_X8_parseCommand_L45 fc p2 K p2 x3 M1) ∧ (¬ p2 < (2 : Int32) → f_X10_fail (4 : Int32) M1 (fun M25 => K M25)))))))))
set_option maxRecDepth 100000 in
set_option maxHeartbeats 4000000 in
theorem c_X8_parseCommand {ad : Nat → Nat} (fc : Int32 → Int32 → TM → (TM → Prop) → Prop) (dd : Nat) (hd : 5 ≤ dd) (hfc : ∀ (p2 : Int32) (p3 : Int32) (M : TM) (K : TM → Prop), fc p2 p3 M K → MV yX8_parseBlock cX8_parseBlock 5 dd ad [.ref (ad 3), .ref (ad 1), .int p2, .int p3] M K) (p2 : Int32) (M : TM) (K : TM → Prop) (h : f_X8_parseCommand fc p2 M K) : MV yX8_parseCommand cX8_parseCommand 5 (dd + 1) ad [.ref (ad 3), .ref (ad 1), .int p2] M K := by
  refine MV_of RX8 rfl (by decide +kernel) (Nat.le_of_ble_eq_true rfl) (fun p l e s m below meth c D tc E hr => ?_)
  unfold f_X8_parseCommand at h
  refine ra_aload_n E dX8_parseCommand_0 rfl 1 rfl ?_
  refine ra_callAS (rest := []) E (c_X8_verbAt _ _ h) (lq_X8 _) ct_X8_verbAt ml_X8_47 (by decide) rfl rfl (Nat.le_of_ble_eq_true rfl) (rR hd (Nat.le_of_ble_eq_true rfl)) ⟨Nat.zero_le _, Nat.zero_le _⟩ dX8_parseCommand_1 (fun o2 M1 h => ?_)
  obtain ⟨q5, q6, q7⟩ := h
  rcases q5 with q5 | ⟨x3, g4, q5⟩
  · replace h := q6 q5
    subst q5
    refine ra_astore_nN (L' := [(3, _), (0, _), (1, _), (2, _)]) E dX8_parseCommand_4 rfl (by decide) rfl ?_
    refine ra_aload_nN E dX8_parseCommand_5 rfl 0 rfl ?_
    refine ra_ifnonnullN E dX8_parseCommand_6 ?_
    refine ra_aload_n E dX8_parseCommand_9 rfl 2 rfl ?_
    refine ra_iconst E dX8_parseCommand_10 ki_1 ?_
    refine ra_callVV (rest := []) E (c_X10_fail _ _ _ h) (lq_X10 _) cv_X10_fail ml_X8_51 (by decide) (lm (by decide)) (fun R => ⟨_, cel_1 tc ad R⟩) rfl rfl rfl (Nat.le_of_ble_eq_true rfl) (rR hd (Nat.le_of_ble_eq_true rfl)) ⟨Nat.zero_le _, Nat.zero_le _⟩ dX8_parseCommand_11 (fun M8 h => ?_)
    exact ra_vret E hr dX8_parseCommand_14 h
  · replace h := q7 x3 g4 q5
    subst q5
    refine ra_astore_n (L' := [(3, _), (0, _), (1, _), (2, _)]) E dX8_parseCommand_4 rfl (by decide) rfl ?_
    refine ra_aload_n E dX8_parseCommand_5 rfl 0 rfl ?_
    refine ra_ifnonnull (tgt := 15) E dX8_parseCommand_6 (by decide) ?_
    refine ra_aload_n E dX8_parseCommand_15 rfl 1 rfl ?_
    refine gf_X8_1 E fl_X8_17 dX8_parseCommand_16 ?_
    refine ra_aload_n E dX8_parseCommand_19 rfl 1 rfl ?_
    refine gf_X8_0 E fl_X8_11 dX8_parseCommand_20 ?_
    refine ra_alen (n := 20) (v := 20) E (lm (by decide)) (fun R => ⟨_, (cel_4 tc ad) R, rfl⟩) rfl (by decide) dX8_parseCommand_23 ?_
    refine ra_icmp_ge (tgt := 39) E dX8_parseCommand_24 (by decide) (fun q9 => ?_) (fun q9 => ?_)
    · replace h := h.1 q9
      refine ra_aload_n E dX8_parseCommand_39 rfl 2 rfl ?_
      refine ra_iconst E dX8_parseCommand_40 ki_4 ?_
      refine ra_callVV (rest := []) E (c_X10_fail _ _ _ h) (lq_X10 _) cv_X10_fail ml_X8_51 (by decide) (lm (by decide)) (fun R => ⟨_, cel_1 tc ad R⟩) rfl rfl rfl (Nat.le_of_ble_eq_true rfl) (rR hd (Nat.le_of_ble_eq_true rfl)) ⟨Nat.zero_le _, Nat.zero_le _⟩ dX8_parseCommand_41 (fun M10 h => ?_)
      exact ra_vret E hr dX8_parseCommand_44 h
    · replace h := h.2 q9
      refine ra_aload_n E dX8_parseCommand_27 rfl 0 rfl ?_
      refine gs_V (i := 8) E 8 (by decide) rfl (by decide) fl_X8_54 dX8_parseCommand_28 ?_
      refine acmpV_ne (tgt := 45) E g4 (vpl _ _ (by decide)) dX8_parseCommand_31 (by decide) (fun q11 => ?_) (fun q11 => ?_)
      · replace h := h.1 q11
        exact ra_sub (L' := [(0, _), (1, _), (2, _), (3, _)]) [1, 2, 3, 0] rfl (l_X8_parseCommand_L45 fc dd hd hfc p2 E hr _ _ _ h)
      · replace h := h.2 q11
        refine ra_iload_n E dX8_parseCommand_34 rfl 3 rfl ?_
        refine ra_iconst E dX8_parseCommand_35 ki_2 ?_
        refine ra_icmp_lt (tgt := 45) E dX8_parseCommand_36 (by decide) (fun q24 => ?_) (fun q24 => ?_)
        · replace h := h.1 q24
          exact ra_sub (L' := [(0, _), (1, _), (2, _), (3, _)]) [1, 2, 3, 0] rfl (l_X8_parseCommand_L45 fc dd hd hfc p2 E hr _ _ _ h)
        · replace h := h.2 q24
          refine ra_aload_n E dX8_parseCommand_39 rfl 2 rfl ?_
          refine ra_iconst E dX8_parseCommand_40 ki_4 ?_
          refine ra_callVV (rest := []) E (c_X10_fail _ _ _ h) (lq_X10 _) cv_X10_fail ml_X8_51 (by decide) (lm (by decide)) (fun R => ⟨_, cel_1 tc ad R⟩) rfl rfl rfl (Nat.le_of_ble_eq_true rfl) (rR hd (Nat.le_of_ble_eq_true rfl)) ⟨Nat.zero_le _, Nat.zero_le _⟩ dX8_parseCommand_41 (fun M25 h => ?_)
          exact ra_vret E hr dX8_parseCommand_44 h
def f_X8_parseCommandR : Nat → Int32 → TM → (TM → Prop) → Prop
  | 0 => fun _ _ _ => False
  | k + 1 => fun p2 M K => f_X8_parseCommand (fun p2 p3 M K => f_X8_parseBlock (f_X8_parseCommandR k) p2 p3 M K) p2 M K
theorem c_X8_parseCommandR {ad : Nat → Nat} : ∀ (k : Nat) (p2 : Int32) (M : TM) (K : TM → Prop), f_X8_parseCommandR k p2 M K → MV yX8_parseCommand cX8_parseCommand 5 (5 + 2 * k) ad [.ref (ad 3), .ref (ad 1), .int p2] M K := by
  intro k
  induction k with
  | zero => intro p2 M K h; exact h.elim
  | succ k ih => intro p2 M K h; exact c_X8_parseCommand (fun p2 p3 M K => f_X8_parseBlock (f_X8_parseCommandR k) p2 p3 M K) (5 + 2 * k + 1) (by omega) (fun p2 p3 M K h => c_X8_parseBlock (f_X8_parseCommandR k) (5 + 2 * k) (by omega) ih p2 p3 M K h) p2 M K h
def f_X8_parseBlockC (p2 : Int32) (p3 : Int32) (M : TM) (K : TM → Prop) : Prop := f_X8_parseBlock (f_X8_parseCommandR 3) p2 p3 M K
theorem c_X8_parseBlockC {ad : Nat → Nat} (p2 : Int32) (p3 : Int32) (M : TM) (K : TM → Prop) (h : f_X8_parseBlockC p2 p3 M K) : MV yX8_parseBlock cX8_parseBlock 5 12 ad [.ref (ad 3), .ref (ad 1), .int p2, .int p3] M K := c_X8_parseBlock (f_X8_parseCommandR 3) 11 (by omega) (c_X8_parseCommandR 3) p2 p3 M K h
def f_X8_parseCommandC (p2 : Int32) (M : TM) (K : TM → Prop) : Prop := f_X8_parseCommandR 3 p2 M K
theorem c_X8_parseCommandC {ad : Nat → Nat} (p2 : Int32) (M : TM) (K : TM → Prop) (h : f_X8_parseCommandC p2 M K) : MV yX8_parseCommand cX8_parseCommand 5 11 ad [.ref (ad 3), .ref (ad 1), .int p2] M K := c_X8_parseCommandR 3 p2 M K h
def f_X3_parse (a1 : Nat) (M : TM) (K : TM → Prop) : Prop := f_X10_readWord 9 M (fun M1 => f_X10_readNumber (3 : Int32) (16 : Int32) M1 (fun r3 M2 => f_X2_clear a1 r3 M2 (fun M4 => f_X10_readToken (5 : Int32) M4 (fun M5 => f_X3_parseSections a1 M5 (fun M6 => f_X3_parseBarges a1 M6 (fun M7 => f_X3_parseOrders a1 M7 (fun M8 => f_X10_readToken (0 : Int32) M8 (fun M9 => K M9))))))))
set_option maxRecDepth 100000 in
set_option maxHeartbeats 4000000 in
theorem c_X3_parse {ad : Nat → Nat} (a1 : Nat) (h1 : IsCanal a1) (M : TM) (K : TM → Prop) (h : f_X3_parse a1 M K) : MV yX3_parse cX3_parse 2 6 ad [.ref (ad 1), .ref (ad a1)] M K := by
  refine MV_of RX3 rfl (by decide +kernel) (Nat.le_of_ble_eq_true rfl) (fun p l e s m below meth c D tc E hr => ?_)
  unfold f_X3_parse at h
  refine ra_aload_n E dX3_parse_0 rfl 0 rfl ?_
  refine ra_ldcS E sr_X3_9 dX3_parse_1 ?_
  refine ra_callVV (rest := []) E (c_X10_readWord _ (Nat.le_of_ble_eq_true rfl) _ _ h) (lq_X10 _) cv_X10_readWord ml_X3_11 (by decide) (lm (by decide)) (fun R => ⟨_, cel_1 tc ad R⟩) rfl rfl rfl (Nat.le_of_ble_eq_true rfl) ⟨Nat.le_of_ble_eq_true rfl, Nat.le_of_ble_eq_true rfl⟩ ⟨Nat.zero_le _, Nat.zero_le _⟩ dX3_parse_3 (fun M1 h => ?_)
  refine ra_aload_n E dX3_parse_6 rfl 1 rfl ?_
  refine ra_aload_n E dX3_parse_7 rfl 0 rfl ?_
  refine ra_iconst E dX3_parse_8 ki_3 ?_
  refine ra_bipush E dX3_parse_9 kb_16 ?_
  refine ra_callIV (rest := [_]) E (c_X10_readNumber _ _ _ _ h) (lq_X10 _) cv_X10_readNumber ml_X3_17 (by decide) (lm (by decide)) (fun R => ⟨_, cel_1 tc ad R⟩) rfl rfl rfl (Nat.le_of_ble_eq_true rfl) ⟨Nat.le_of_ble_eq_true rfl, Nat.le_of_ble_eq_true rfl⟩ ⟨Nat.zero_le _, Nat.zero_le _⟩ dX3_parse_11 (fun r3 M2 h => ?_)
  refine ra_callVV (rest := []) E (c_X2_clear _ h1 _ _ _ h) (lq_X2 _) cv_X2_clear ml_X3_21 (by decide) (lm (h1.add (j := 0) (by decide))) (fun R => ⟨_, cel_canal tc ad h1 R⟩) rfl rfl rfl (Nat.le_of_ble_eq_true rfl) ⟨Nat.le_of_ble_eq_true rfl, Nat.le_of_ble_eq_true rfl⟩ ⟨Nat.zero_le _, Nat.zero_le _⟩ dX3_parse_14 (fun M4 h => ?_)
  refine ra_aload_n E dX3_parse_17 rfl 0 rfl ?_
  refine ra_iconst E dX3_parse_18 ki_5 ?_
  refine ra_callVV (rest := []) E (c_X10_readToken _ _ _ h) (lq_X10 _) cv_X10_readToken ml_X3_27 (by decide) (lm (by decide)) (fun R => ⟨_, cel_1 tc ad R⟩) rfl rfl rfl (Nat.le_of_ble_eq_true rfl) ⟨Nat.le_of_ble_eq_true rfl, Nat.le_of_ble_eq_true rfl⟩ ⟨Nat.zero_le _, Nat.zero_le _⟩ dX3_parse_19 (fun M5 h => ?_)
  refine ra_aload_n E dX3_parse_22 rfl 0 rfl ?_
  refine ra_aload_n E dX3_parse_23 rfl 1 rfl ?_
  refine ra_callVS (rest := []) E (c_X3_parseSections _ h1 _ _ h) (lq_X3 _) ct_X3_parseSections ml_X3_30 (by decide) rfl rfl (Nat.le_of_ble_eq_true rfl) ⟨Nat.le_of_ble_eq_true rfl, Nat.le_of_ble_eq_true rfl⟩ ⟨Nat.zero_le _, Nat.zero_le _⟩ dX3_parse_24 (fun M6 h => ?_)
  refine ra_aload_n E dX3_parse_27 rfl 0 rfl ?_
  refine ra_aload_n E dX3_parse_28 rfl 1 rfl ?_
  refine ra_callVS (rest := []) E (c_X3_parseBarges _ h1 _ _ h) (lq_X3 _) ct_X3_parseBarges ml_X3_36 (by decide) rfl rfl (Nat.le_of_ble_eq_true rfl) ⟨Nat.le_of_ble_eq_true rfl, Nat.le_of_ble_eq_true rfl⟩ ⟨Nat.zero_le _, Nat.zero_le _⟩ dX3_parse_29 (fun M7 h => ?_)
  refine ra_aload_n E dX3_parse_32 rfl 0 rfl ?_
  refine ra_aload_n E dX3_parse_33 rfl 1 rfl ?_
  refine ra_callVS (rest := []) E (c_X3_parseOrders _ h1 _ _ h) (lq_X3 _) ct_X3_parseOrders ml_X3_39 (by decide) rfl rfl (Nat.le_of_ble_eq_true rfl) ⟨Nat.le_of_ble_eq_true rfl, Nat.le_of_ble_eq_true rfl⟩ ⟨Nat.zero_le _, Nat.zero_le _⟩ dX3_parse_34 (fun M8 h => ?_)
  refine ra_aload_n E dX3_parse_37 rfl 0 rfl ?_
  refine ra_iconst E dX3_parse_38 ki_0 ?_
  refine ra_callVV (rest := []) E (c_X10_readToken _ _ _ h) (lq_X10 _) cv_X10_readToken ml_X3_27 (by decide) (lm (by decide)) (fun R => ⟨_, cel_1 tc ad R⟩) rfl rfl rfl (Nat.le_of_ble_eq_true rfl) ⟨Nat.le_of_ble_eq_true rfl, Nat.le_of_ble_eq_true rfl⟩ ⟨Nat.zero_le _, Nat.zero_le _⟩ dX3_parse_39 (fun M9 h => ?_)
  exact ra_vret E hr dX3_parse_42 h
def f_X8_parse  (M : TM) (K : TM → Prop) : Prop := ∀ M1, M1 = u2 M 3 1 (0 : Int32) → f_X8_parseBlockC (0 : Int32) (0 : Int32) M1 (fun M2 => K M2)
set_option maxRecDepth 100000 in
set_option maxHeartbeats 4000000 in
theorem c_X8_parse {ad : Nat → Nat}  (M : TM) (K : TM → Prop) (h : f_X8_parse  M K) : MV yX8_parse cX8_parse 2 13 ad [.ref (ad 3), .ref (ad 1)] M K := by
  refine MV_of RX8 rfl (by decide +kernel) (Nat.le_of_ble_eq_true rfl) (fun p l e s m below meth c D tc E hr => ?_)
  unfold f_X8_parse at h
  refine ra_aload_n E dX8_parse_0 rfl 0 rfl ?_
  refine ra_iconst E dX8_parse_1 ki_0 ?_
  refine pf_X8_1 E fl_X8_17 dX8_parse_2 ?_
  replace h := h _ rfl
  refine ra_aload_n E dX8_parse_5 rfl 0 rfl ?_
  refine ra_aload_n E dX8_parse_6 rfl 1 rfl ?_
  refine ra_iconst E dX8_parse_7 ki_0 ?_
  refine ra_iconst E dX8_parse_8 ki_0 ?_
  refine ra_callVV (rest := []) E (c_X8_parseBlockC _ _ _ _ h) (lq_X8 _) cv_X8_parseBlock ml_X8_27 (by decide) (lm (by decide)) (fun R => ⟨_, cel_3 tc ad R⟩) rfl rfl rfl (Nat.le_of_ble_eq_true rfl) ⟨Nat.le_of_ble_eq_true rfl, Nat.le_of_ble_eq_true rfl⟩ ⟨Nat.zero_le _, Nat.zero_le _⟩ dX8_parse_9 (fun M2 h => ?_)
  exact ra_vret E hr dX8_parse_12 h
def f_X12_loadCanal (p1 : Int32) (M : TM) (K : Int32 → TM → Prop) (X : String → TM → Prop) : Prop := f_X12_requireText p1 M (fun M1 => f_X10_begin p1 M1 (fun M2 => vp_in (M2 0 6) 11 ∧ f_X3_parse (27 + 61 * (M2 0 6).toNatClampNeg) M2 (fun M4 => f_X10_empty M4 (fun M5 => f_X10_failed M5 (fun r7 M6 => ((r7 = 0 → vp_in (M6 0 5) 11 ∧ vp_in (M6 0 6) 11 ∧ ∀ M12, M12 = u2 M6 0 5 (M6 0 6) → ∀ M13, M13 = u2 M12 0 6 (M6 0 5) → f_X5_clear M13 (fun M14 => ∀ M15, M15 = u2 M14 0 4 (0 : Int32) → vp_in (M15 0 5) 11 ∧ K (M15 (27 + 61 * (M15 0 5).toNatClampNeg) 4) M15)) ∧ (¬ r7 = 0 → K (-1 : Int32) M6))))))) X
set_option maxRecDepth 100000 in
set_option maxHeartbeats 4000000 in
theorem c_X12_loadCanal {ad : Nat → Nat} (p1 : Int32) (M : TM) (K : Int32 → TM → Prop) (X : String → TM → Prop) (h : f_X12_loadCanal p1 M K X) : XI yX12_loadCanal cX12_loadCanal 3 (some .int) 7 1 ad [.ref (ad 0), .int p1] M K X := by
  refine XI_of RX12 rfl (by decide +kernel) (Nat.le_of_ble_eq_true rfl) (fun p l e s m below meth c D tc E hr hfl hT => ?_)
  unfold f_X12_loadCanal at h
  refine ra_aload_n E dX12_loadCanal_0 rfl 0 rfl ?_
  refine ra_iload_n E dX12_loadCanal_1 rfl 1 rfl ?_
  refine rx_callVVP (rest := []) E hfl (c_X12_requireText _ _ _ _ h) (lq_X12 _) cv_X12_requireText ml_X12_90 (by decide) (lm (by decide)) (fun R => ⟨_, cel_0 tc ad R⟩) rfl rfl rfl (Nat.le_of_ble_eq_true rfl) ⟨Nat.le_of_ble_eq_true rfl, Nat.le_of_ble_eq_true rfl⟩ ⟨Nat.le_of_ble_eq_true rfl, Nat.le_of_ble_eq_true rfl⟩ dX12_loadCanal_2 hT ⟨Nat.le_of_ble_eq_true rfl, Nat.le_of_ble_eq_true rfl⟩ (fun _ _ hx => hx) (fun M1 h => ?_)
  refine ra_aload_n E dX12_loadCanal_5 rfl 0 rfl ?_
  refine gf_X12_0 E fl_X12_10 dX12_loadCanal_6 ?_
  refine ra_iload_n E dX12_loadCanal_9 rfl 1 rfl ?_
  refine ra_callVV (rest := []) E (c_X10_begin _ _ _ h) (lq_X10 _) cv_X10_begin ml_X12_67 (by decide) (lm (by decide)) (fun R => ⟨_, cel_1 tc ad R⟩) rfl rfl rfl (Nat.le_of_ble_eq_true rfl) ⟨Nat.le_of_ble_eq_true rfl, Nat.le_of_ble_eq_true rfl⟩ ⟨Nat.le_of_ble_eq_true rfl, Nat.le_of_ble_eq_true rfl⟩ dX12_loadCanal_10 (fun M2 h => ?_)
  refine ra_aload_n E dX12_loadCanal_13 rfl 0 rfl ?_
  refine gf_X12_0 E fl_X12_10 dX12_loadCanal_14 ?_
  refine ra_aload_n E dX12_loadCanal_17 rfl 0 rfl ?_
  obtain ⟨g3, h⟩ := h
  refine gf_X12_6 E fl_X12_44 dX12_loadCanal_18 ?_
  refine ra_callVS (rest := []) E (c_X3_parse _ (isCanal_of g3) _ _ h) (lq_X3 _) ct_X3_parse ml_X12_71 (by decide) rfl rfl (Nat.le_of_ble_eq_true rfl) ⟨Nat.le_of_ble_eq_true rfl, Nat.le_of_ble_eq_true rfl⟩ ⟨Nat.le_of_ble_eq_true rfl, Nat.le_of_ble_eq_true rfl⟩ dX12_loadCanal_21 (fun M4 h => ?_)
  refine ra_aload_n E dX12_loadCanal_24 rfl 0 rfl ?_
  refine gf_X12_0 E fl_X12_10 dX12_loadCanal_25 ?_
  refine ra_callVV (rest := []) E (c_X10_empty _ _ h) (lq_X10 _) cv_X10_empty ml_X12_77 (by decide) (lm (by decide)) (fun R => ⟨_, cel_1 tc ad R⟩) rfl rfl rfl (Nat.le_of_ble_eq_true rfl) ⟨Nat.le_of_ble_eq_true rfl, Nat.le_of_ble_eq_true rfl⟩ ⟨Nat.le_of_ble_eq_true rfl, Nat.le_of_ble_eq_true rfl⟩ dX12_loadCanal_28 (fun M5 h => ?_)
  refine ra_aload_n E dX12_loadCanal_31 rfl 0 rfl ?_
  refine gf_X12_0 E fl_X12_10 dX12_loadCanal_32 ?_
  refine ra_callIV (rest := []) E (c_X10_failed _ _ h) (lq_X10 _) cv_X10_failed ml_X12_93 (by decide) (lm (by decide)) (fun R => ⟨_, cel_1 tc ad R⟩) rfl rfl rfl (Nat.le_of_ble_eq_true rfl) ⟨Nat.le_of_ble_eq_true rfl, Nat.le_of_ble_eq_true rfl⟩ ⟨Nat.le_of_ble_eq_true rfl, Nat.le_of_ble_eq_true rfl⟩ dX12_loadCanal_35 (fun r7 M6 h => ?_)
  obtain ⟨b8, h⟩ := h
  refine ra_if_eq (tgt := 43) E dX12_loadCanal_38 (by decide) (fun q9 => ?_) (fun q9 => ?_)
  · replace h := h.1 q9
    refine ra_aload_n E dX12_loadCanal_43 rfl 0 rfl ?_
    obtain ⟨g10, h⟩ := h
    refine gf_X12_5 E fl_X12_41 dX12_loadCanal_44 ?_
    refine ra_astore_n (L' := [(2, _), (0, _), (1, _)]) E dX12_loadCanal_47 rfl (by decide) rfl ?_
    refine ra_aload_n E dX12_loadCanal_48 rfl 1 rfl ?_
    refine ra_aload_n E dX12_loadCanal_49 rfl 1 rfl ?_
    obtain ⟨g11, h⟩ := h
    refine gf_X12_6 E fl_X12_44 dX12_loadCanal_50 ?_
    refine pf_X12_5 E _ rfl fl_X12_41 dX12_loadCanal_53 ?_
    replace h := h _ rfl
    refine ra_aload_n E dX12_loadCanal_56 rfl 1 rfl ?_
    refine ra_aload_n E dX12_loadCanal_57 rfl 0 rfl ?_
    refine pf_X12_6 E _ rfl fl_X12_44 dX12_loadCanal_58 ?_
    replace h := h _ rfl
    refine ra_aload_n E dX12_loadCanal_61 rfl 1 rfl ?_
    refine gf_X12_2 E fl_X12_26 dX12_loadCanal_62 ?_
    refine ra_callVV (rest := []) E (c_X5_clear _ _ h) (lq_X5 _) cv_X5_clear ml_X12_97 (by decide) (lm (by decide)) (fun R => ⟨_, cel_25 tc ad R⟩) rfl rfl rfl (Nat.le_of_ble_eq_true rfl) ⟨Nat.le_of_ble_eq_true rfl, Nat.le_of_ble_eq_true rfl⟩ ⟨Nat.le_of_ble_eq_true rfl, Nat.le_of_ble_eq_true rfl⟩ dX12_loadCanal_65 (fun M14 h => ?_)
    refine ra_aload_n E dX12_loadCanal_68 rfl 1 rfl ?_
    refine ra_iconst E dX12_loadCanal_69 ki_0 ?_
    refine pf_X12_4 E fl_X12_37 (by decide) dX12_loadCanal_70 ?_
    replace h := h _ rfl
    refine ra_aload_n E dX12_loadCanal_73 rfl 1 rfl ?_
    obtain ⟨g16, h⟩ := h
    refine gf_X12_5 E fl_X12_41 dX12_loadCanal_74 ?_
    refine gf_X2_4 E (isCanal_of g16) fl_X12_100 dX12_loadCanal_77 ?_
    exact rx_iret E hr dX12_loadCanal_80 ⟨Nat.le_of_ble_eq_true rfl, Nat.le_of_ble_eq_true rfl⟩ h
  · replace h := h.2 q9
    refine ra_iconst E dX12_loadCanal_41 ki_m1 ?_
    exact rx_iret E hr dX12_loadCanal_42 ⟨Nat.le_of_ble_eq_true rfl, Nat.le_of_ble_eq_true rfl⟩ h
def f_X12_runScript (p1 : Int32) (M : TM) (K : Int32 → TM → Prop) (X : String → TM → Prop) : Prop := f_X12_requireText p1 M (fun M1 => f_X10_begin p1 M1 (fun M2 => f_X8_parse M2 (fun M3 => f_X10_empty M3 (fun M4 => f_X10_failed M4 (fun r6 M5 => ((r6 = 0 → vp_in (M5 0 5) 11 ∧ f_X5_remember (27 + 61 * (M5 0 5).toNatClampNeg) M5 (fun M10 => vp_in (M10 0 5) 11 ∧ f_X8_executeOn (27 + 61 * (M10 0 5).toNatClampNeg) M10 (fun r13 M12 => K r13 M12))) ∧ (¬ r6 = 0 → K (-1 : Int32) M5))))))) X
set_option maxRecDepth 100000 in
set_option maxHeartbeats 4000000 in
theorem c_X12_runScript {ad : Nat → Nat} (p1 : Int32) (M : TM) (K : Int32 → TM → Prop) (X : String → TM → Prop) (h : f_X12_runScript p1 M K X) : XI yX12_runScript cX12_runScript 2 (some .int) 14 1 ad [.ref (ad 0), .int p1] M K X := by
  refine XI_of RX12 rfl (by decide +kernel) (Nat.le_of_ble_eq_true rfl) (fun p l e s m below meth c D tc E hr hfl hT => ?_)
  unfold f_X12_runScript at h
  refine ra_aload_n E dX12_runScript_0 rfl 0 rfl ?_
  refine ra_iload_n E dX12_runScript_1 rfl 1 rfl ?_
  refine rx_callVVP (rest := []) E hfl (c_X12_requireText _ _ _ _ h) (lq_X12 _) cv_X12_requireText ml_X12_90 (by decide) (lm (by decide)) (fun R => ⟨_, cel_0 tc ad R⟩) rfl rfl rfl (Nat.le_of_ble_eq_true rfl) ⟨Nat.le_of_ble_eq_true rfl, Nat.le_of_ble_eq_true rfl⟩ ⟨Nat.le_of_ble_eq_true rfl, Nat.le_of_ble_eq_true rfl⟩ dX12_runScript_2 hT ⟨Nat.le_of_ble_eq_true rfl, Nat.le_of_ble_eq_true rfl⟩ (fun _ _ hx => hx) (fun M1 h => ?_)
  refine ra_aload_n E dX12_runScript_5 rfl 0 rfl ?_
  refine gf_X12_0 E fl_X12_10 dX12_runScript_6 ?_
  refine ra_iload_n E dX12_runScript_9 rfl 1 rfl ?_
  refine ra_callVV (rest := []) E (c_X10_begin _ _ _ h) (lq_X10 _) cv_X10_begin ml_X12_67 (by decide) (lm (by decide)) (fun R => ⟨_, cel_1 tc ad R⟩) rfl rfl rfl (Nat.le_of_ble_eq_true rfl) ⟨Nat.le_of_ble_eq_true rfl, Nat.le_of_ble_eq_true rfl⟩ ⟨Nat.le_of_ble_eq_true rfl, Nat.le_of_ble_eq_true rfl⟩ dX12_runScript_10 (fun M2 h => ?_)
  refine ra_aload_n E dX12_runScript_13 rfl 0 rfl ?_
  refine gf_X12_1 E fl_X12_19 dX12_runScript_14 ?_
  refine ra_aload_n E dX12_runScript_17 rfl 0 rfl ?_
  refine gf_X12_0 E fl_X12_10 dX12_runScript_18 ?_
  refine ra_callVV (rest := []) E (c_X8_parse _ _ h) (lq_X8 _) cv_X8_parse ml_X12_335 (by decide) (lm (by decide)) (fun R => ⟨_, cel_3 tc ad R⟩) rfl rfl rfl (Nat.le_of_ble_eq_true rfl) ⟨Nat.le_of_ble_eq_true rfl, Nat.le_of_ble_eq_true rfl⟩ ⟨Nat.le_of_ble_eq_true rfl, Nat.le_of_ble_eq_true rfl⟩ dX12_runScript_21 (fun M3 h => ?_)
  refine ra_aload_n E dX12_runScript_24 rfl 0 rfl ?_
  refine gf_X12_0 E fl_X12_10 dX12_runScript_25 ?_
  refine ra_callVV (rest := []) E (c_X10_empty _ _ h) (lq_X10 _) cv_X10_empty ml_X12_77 (by decide) (lm (by decide)) (fun R => ⟨_, cel_1 tc ad R⟩) rfl rfl rfl (Nat.le_of_ble_eq_true rfl) ⟨Nat.le_of_ble_eq_true rfl, Nat.le_of_ble_eq_true rfl⟩ ⟨Nat.le_of_ble_eq_true rfl, Nat.le_of_ble_eq_true rfl⟩ dX12_runScript_28 (fun M4 h => ?_)
  refine ra_aload_n E dX12_runScript_31 rfl 0 rfl ?_
  refine gf_X12_0 E fl_X12_10 dX12_runScript_32 ?_
  refine ra_callIV (rest := []) E (c_X10_failed _ _ h) (lq_X10 _) cv_X10_failed ml_X12_93 (by decide) (lm (by decide)) (fun R => ⟨_, cel_1 tc ad R⟩) rfl rfl rfl (Nat.le_of_ble_eq_true rfl) ⟨Nat.le_of_ble_eq_true rfl, Nat.le_of_ble_eq_true rfl⟩ ⟨Nat.le_of_ble_eq_true rfl, Nat.le_of_ble_eq_true rfl⟩ dX12_runScript_35 (fun r6 M5 h => ?_)
  obtain ⟨b7, h⟩ := h
  refine ra_if_eq (tgt := 43) E dX12_runScript_38 (by decide) (fun q8 => ?_) (fun q8 => ?_)
  · replace h := h.1 q8
    refine ra_aload_n E dX12_runScript_43 rfl 0 rfl ?_
    refine gf_X12_2 E fl_X12_26 dX12_runScript_44 ?_
    refine ra_aload_n E dX12_runScript_47 rfl 0 rfl ?_
    obtain ⟨g9, h⟩ := h
    refine gf_X12_5 E fl_X12_41 dX12_runScript_48 ?_
    refine ra_callVV (rest := []) E (c_X5_remember _ (isCanal_of g9) _ _ h) (lq_X5 _) cv_X5_remember ml_X12_289 (by decide) (lm (by decide)) (fun R => ⟨_, cel_25 tc ad R⟩) rfl rfl rfl (Nat.le_of_ble_eq_true rfl) ⟨Nat.le_of_ble_eq_true rfl, Nat.le_of_ble_eq_true rfl⟩ ⟨Nat.le_of_ble_eq_true rfl, Nat.le_of_ble_eq_true rfl⟩ dX12_runScript_51 (fun M10 h => ?_)
    refine ra_aload_n E dX12_runScript_54 rfl 0 rfl ?_
    refine gf_X12_1 E fl_X12_19 dX12_runScript_55 ?_
    refine ra_aload_n E dX12_runScript_58 rfl 0 rfl ?_
    obtain ⟨g11, h⟩ := h
    refine gf_X12_5 E fl_X12_41 dX12_runScript_59 ?_
    refine ra_callIV (rest := []) E (c_X8_executeOn _ (isCanal_of g11) _ _ h) (lq_X8 _) cv_X8_executeOn ml_X12_338 (by decide) (lm (by decide)) (fun R => ⟨_, cel_3 tc ad R⟩) rfl rfl rfl (Nat.le_of_ble_eq_true rfl) ⟨Nat.le_of_ble_eq_true rfl, Nat.le_of_ble_eq_true rfl⟩ ⟨Nat.le_of_ble_eq_true rfl, Nat.le_of_ble_eq_true rfl⟩ dX12_runScript_62 (fun r13 M12 h => ?_)
    exact rx_iret E hr dX12_runScript_65 ⟨Nat.le_of_ble_eq_true rfl, Nat.le_of_ble_eq_true rfl⟩ h
  · replace h := h.2 q8
    refine ra_iconst E dX12_runScript_41 ki_m1 ?_
    exact rx_iret E hr dX12_runScript_42 ⟨Nat.le_of_ble_eq_true rfl, Nat.le_of_ble_eq_true rfl⟩ h
def f_L_loadCanal (p1 : Int32) (M : TM) (K : Int32 → TM → Prop) : Prop := f_X12_loadCanal p1 M (fun r2 M1 => ∀ M4, M4 = u2 M1 710 0 r2 → K (0 : Int32) M4) (fun E9 M3 => (E9 = "java/lang/IllegalArgumentException" ∧ K (1 : Int32) M3))
set_option maxRecDepth 100000 in
set_option maxHeartbeats 4000000 in
theorem c_L_loadCanal {ad : Nat → Nat} (p1 : Int32) (M : TM) (K : Int32 → TM → Prop) (h : f_L_loadCanal p1 M K) : XW yL_loadCanal cL_loadCanal 4 (some .int) [(0, 9, 12, 13)] 8 1 ad [.ref (ad 0), .int p1, .ref (ad 710)] M K := by
  refine XW_of RL rfl (by decide +kernel) (Nat.le_of_ble_eq_true rfl) (fun p l e s m below meth c D tc E hr hfl hTab => ?_)
  unfold f_L_loadCanal at h
  refine ra_aload_n E dL_loadCanal_0 rfl 2 rfl ?_
  refine ra_iconst E dL_loadCanal_1 ki_0 ?_
  refine ra_aload_n E dL_loadCanal_2 rfl 0 rfl ?_
  refine ra_iload_n E dL_loadCanal_3 rfl 1 rfl ?_
  refine rx_callIVH (rest := [_, _]) E hfl (c_X12_loadCanal _ _ _ _ h) (lq_X12 _) cv_X12_loadCanal ml_L_7 (by decide) (lm (by decide)) (fun R => ⟨_, cel_0 tc ad R⟩) rfl rfl rfl (Nat.le_of_ble_eq_true rfl) ⟨Nat.le_of_ble_eq_true rfl, Nat.le_of_ble_eq_true rfl⟩ ⟨Nat.le_of_ble_eq_true rfl, Nat.le_of_ble_eq_true rfl⟩ dL_loadCanal_4 (fun E9 M3 hX => ?_) (fun r2 M1 h => ?_)
  · obtain ⟨rfl, h⟩ := hX
    · exact rx_catch hTab E [] [] ⟨0, 9, 12, 13⟩ rfl (fun _ hz => absurd hz List.not_mem_nil) (by decide +kernel) (by decide) kl_13 (by decide +kernel) (fun q5 => by
        refine ra_astore_n (L' := [(3, _), (0, _), (1, _), (2, _)]) E dL_loadCanal_12 rfl (by decide) rfl ?_
        refine ra_iconst E dL_loadCanal_13 ki_1 ?_
        exact rx_iret E hr dL_loadCanal_14 ⟨Nat.le_of_ble_eq_true rfl, Nat.le_of_ble_eq_true rfl⟩ h
        )
  · skip
    refine ra_i2l E dL_loadCanal_7 rfl ?_
    refine ra_last E (Nat.le_of_ble_eq_true rfl) rfl dL_loadCanal_8 ?_
    replace h := h _ rfl
    refine ra_goto (tgt := 15) E dL_loadCanal_9 (by decide) ?_
    refine ra_iconst E dL_loadCanal_15 ki_0 ?_
    exact rx_iret E hr dL_loadCanal_16 ⟨Nat.le_of_ble_eq_true rfl, Nat.le_of_ble_eq_true rfl⟩ h
def f_L_runScript (p1 : Int32) (M : TM) (K : Int32 → TM → Prop) : Prop := f_X12_runScript p1 M (fun r2 M1 => ∀ M4, M4 = u2 M1 710 0 r2 → K (0 : Int32) M4) (fun E9 M3 => (E9 = "java/lang/IllegalArgumentException" ∧ K (1 : Int32) M3))
set_option maxRecDepth 100000 in
set_option maxHeartbeats 4000000 in
theorem c_L_runScript {ad : Nat → Nat} (p1 : Int32) (M : TM) (K : Int32 → TM → Prop) (h : f_L_runScript p1 M K) : XW yL_runScript cL_runScript 4 (some .int) [(0, 9, 12, 13)] 15 1 ad [.ref (ad 0), .int p1, .ref (ad 710)] M K := by
  refine XW_of RL rfl (by decide +kernel) (Nat.le_of_ble_eq_true rfl) (fun p l e s m below meth c D tc E hr hfl hTab => ?_)
  unfold f_L_runScript at h
  refine ra_aload_n E dL_runScript_0 rfl 2 rfl ?_
  refine ra_iconst E dL_runScript_1 ki_0 ?_
  refine ra_aload_n E dL_runScript_2 rfl 0 rfl ?_
  refine ra_iload_n E dL_runScript_3 rfl 1 rfl ?_
  refine rx_callIVH (rest := [_, _]) E hfl (c_X12_runScript _ _ _ _ h) (lq_X12 _) cv_X12_runScript ml_L_142 (by decide) (lm (by decide)) (fun R => ⟨_, cel_0 tc ad R⟩) rfl rfl rfl (Nat.le_of_ble_eq_true rfl) ⟨Nat.le_of_ble_eq_true rfl, Nat.le_of_ble_eq_true rfl⟩ ⟨Nat.le_of_ble_eq_true rfl, Nat.le_of_ble_eq_true rfl⟩ dL_runScript_4 (fun E9 M3 hX => ?_) (fun r2 M1 h => ?_)
  · obtain ⟨rfl, h⟩ := hX
    · exact rx_catch hTab E [] [] ⟨0, 9, 12, 13⟩ rfl (fun _ hz => absurd hz List.not_mem_nil) (by decide +kernel) (by decide) kl_13 (by decide +kernel) (fun q5 => by
        refine ra_astore_n (L' := [(3, _), (0, _), (1, _), (2, _)]) E dL_runScript_12 rfl (by decide) rfl ?_
        refine ra_iconst E dL_runScript_13 ki_1 ?_
        exact rx_iret E hr dL_runScript_14 ⟨Nat.le_of_ble_eq_true rfl, Nat.le_of_ble_eq_true rfl⟩ h
        )
  · skip
    refine ra_i2l E dL_runScript_7 rfl ?_
    refine ra_last E (Nat.le_of_ble_eq_true rfl) rfl dL_runScript_8 ?_
    replace h := h _ rfl
    refine ra_goto (tgt := 15) E dL_runScript_9 (by decide) ?_
    refine ra_iconst E dL_runScript_15 ki_0 ?_
    exact rx_iret E hr dL_runScript_16 ⟨Nat.le_of_ble_eq_true rfl, Nat.le_of_ble_eq_true rfl⟩ h
