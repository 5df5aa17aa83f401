def f_X13_commandHere_L2  (K : Int32 → TM → Prop) : Nat → Int32 → TM → Prop
  | 0, _, _ => False
  | n + 1, x1, M => (((9 : Int32) ≤ x1 → K (-1 : Int32) M) ∧ (¬ (9 : Int32) ≤ x1 → vp_in x1 9 ∧ f_X13_isWord (x1.toNatClampNeg) M (fun r4 M3 => ((r4 = 0 → f_X13_commandHere_L2 K n (x1 + 1) M3) ∧ (¬ r4 = 0 → K x1 M3)))))
set_option maxRecDepth 100000 in
set_option maxHeartbeats 4000000 in
theorem l_X13_commandHere_L2 {p : Program} {l : Launch} {e : Env} {s : State} {m : MethodId} {args : Array Value} {below : List Frame} {meth : Method} {c : Code} {D : va_G} {tc : Nat → ClassId} {ad : Nat → Nat}  {K : Int32 → TM → Prop} (E : Ev p s m args meth c D tc ad RX13 cX13_commandHere 2) (hr : meth.sig.returnType = (some .int)) : ∀ (n : Nat) (x1 : Int32) (M : TM) , f_X13_commandHere_L2  K n x1 M → Wa p l e (rmD 5) s m args below meth c 0 0 (MQ below (va_Qi K (EndW D tc ad) (A0 ad s.heap.size)) args s 0 0 (A0 ad s.heap.size)) D tc ad 2 M 2 [(0, .ref (ad 699)), (1, .int x1)] [] := by
  intro n
  induction n with
  | zero => intro x1 M  h; exact h.elim
  | succ n ih =>
    intro x1 M  h
    unfold f_X13_commandHere_L2 at h
    refine ra_iload_n E dX13_commandHere_2 rfl 1 rfl ?_
    refine ra_aload_n E dX13_commandHere_3 rfl 0 rfl ?_
    refine gf_X13_25 E lm13 fl_X13_64 dX13_commandHere_4 ?_
    refine ra_alen (n := 9) (v := 9) E (lmM (by decide)) (fun R => ⟨_, (cel_709 tc ad) R, rfl⟩) rfl (by decide) dX13_commandHere_7 ?_
    refine ra_icmp_ge (tgt := 32) E dX13_commandHere_8 (by decide) (fun q1 => ?_) (fun q1 => ?_)
    · replace h := h.1 q1
      refine ra_iconst E dX13_commandHere_32 ki_m1 ?_
      exact ra_iret E hr dX13_commandHere_33 h
    · replace h := h.2 q1
      refine ra_aload_n E dX13_commandHere_11 rfl 0 rfl ?_
      refine ra_aload_n E dX13_commandHere_12 rfl 0 rfl ?_
      refine gf_X13_25 E lm13 fl_X13_64 dX13_commandHere_13 ?_
      refine ra_iload_n E dX13_commandHere_16 rfl 1 rfl ?_
      obtain ⟨g2, h⟩ := h
      refine ra_aald E (lmM (by decide)) (cel_709 tc ad) rfl g2 dX13_commandHere_17 ?_
      refine ra_callIV (rest := []) E (c_X13_isWord _ (Nat.lt_of_lt_of_le (vp_lt g2) (by decide)) _ _ h) lq_13 cv_X13_isWord ml_X13_342 (by decide) (lmM (by decide)) (fun R => ⟨_, cel_699 tc ad R⟩) rfl rfl rfl (Nat.le_of_ble_eq_true rfl) ⟨Nat.le_of_ble_eq_true rfl, Nat.le_of_ble_eq_true rfl⟩ ⟨Nat.zero_le _, Nat.zero_le _⟩ dX13_commandHere_18 (fun r4 M3 h => ?_)
      obtain ⟨b5, h⟩ := h
      refine ra_if_eq (tgt := 26) E dX13_commandHere_21 (by decide) (fun q6 => ?_) (fun q6 => ?_)
      · replace h := h.1 q6
        refine ra_iinc1 (L' := [(1, _), (0, _)]) E dX13_commandHere_26 1 rfl (by decide) rfl ?_
        refine ra_goto (tgt := 2) E dX13_commandHere_29 (by decide) ?_
        exact ra_sub (L' := [(0, _), (1, _)]) [1, 0] rfl (ih _ _ h)
      · replace h := h.2 q6
        refine ra_iload_n E dX13_commandHere_24 rfl 1 rfl ?_
        exact ra_iret E hr dX13_commandHere_25 h
def f_X13_commandHere  (M : TM) (K : Int32 → TM → Prop) : Prop := ∃ n, f_X13_commandHere_L2 K n (0 : Int32) M
set_option maxRecDepth 100000 in
set_option maxHeartbeats 4000000 in
theorem c_X13_commandHere {ad : Nat → Nat}  (M : TM) (K : Int32 → TM → Prop) (h : f_X13_commandHere  M K) : MI yX13_commandHere cX13_commandHere 2 (some .int) 5 ad [.ref (ad 699)] M K := by
  refine MI_of RX13 rfl (by decide +kernel) (Nat.le_of_ble_eq_true rfl) (fun p l e s m below meth c D tc E hr => ?_)
  unfold f_X13_commandHere at h
  refine ra_iconst E dX13_commandHere_0 ki_0 ?_
  refine ra_istore_n (L' := [(1, _), (0, _)]) E dX13_commandHere_1 rfl (by decide) rfl ?_
  obtain ⟨n7, h⟩ := h
  exact ra_sub (L' := [(0, _), (1, _)]) [1, 0] rfl (l_X13_commandHere_L2 E hr n7 _ _ h)
def f_X13_readRepeat_L46 (fc : Int32 → TM → (TM → Prop) → Prop) (p1 : Int32) (p2 : Int32) (K : TM → Prop) (x1 : Int32) (M : TM) : Prop := f_X13_expect (41 : Int32) M (fun M7 => vp_in (x1 + (2 : Int32)) 100 ∧ ∀ M9, M9 = u2 M7 708 (x1 + (2 : Int32)).toNatClampNeg (M7 699 26) → K M9)
set_option maxRecDepth 100000 in
set_option maxHeartbeats 4000000 in
theorem l_X13_readRepeat_L46 {p : Program} {l : Launch} {e : Env} {s : State} {m : MethodId} {args : Array Value} {below : List Frame} {meth : Method} {c : Code} {D : va_G} {tc : Nat → ClassId} {ad : Nat → Nat} (fc : Int32 → TM → (TM → Prop) → Prop) (dd : Nat) (hd : 5 ≤ dd) (hfc : ∀ (p1 : Int32) (M : TM) (K : TM → Prop), fc p1 M K → MV yX13_readCommand cX13_readCommand 4 dd ad [.ref (ad 699), .int p1] M K) (p1 : Int32) (p2 : Int32) {K : TM → Prop} (E : Ev p s m args meth c D tc ad RX13 cX13_readRepeat 3) (hr : meth.sig.returnType = none) : ∀ (x1 : Int32) (M : TM) , f_X13_readRepeat_L46 fc p1 p2 K x1 M → Wa p l e (rmD (dd + 1)) s m args below meth c 0 0 (MQ below (va_Qv K (EndW D tc ad) (A0 ad s.heap.size)) args s 0 0 (A0 ad s.heap.size)) D tc ad 3 M 46 [(0, .ref (ad 699)), (1, .int x1)] [] := by
  intro x1 M  h
  unfold f_X13_readRepeat_L46 at h
  refine ra_aload_n E dX13_readRepeat_46 rfl 0 rfl ?_
  refine ra_bipush E dX13_readRepeat_47 kb_41 ?_
  refine ra_callVV (rest := []) E (c_X13_expect _ _ _ h) lq_13 cv_X13_expect ml_X13_372 (by decide) (lmM (by decide)) (fun R => ⟨_, cel_699 tc ad R⟩) rfl rfl rfl (Nat.le_of_ble_eq_true rfl) (rR hd (Nat.le_of_ble_eq_true rfl)) ⟨Nat.zero_le _, Nat.zero_le _⟩ dX13_readRepeat_49 (fun M7 h => ?_)
  refine ra_aload_n E dX13_readRepeat_52 rfl 0 rfl ?_
  refine gf_X13_24 E lm13 fl_X13_41 dX13_readRepeat_53 ?_
  refine ra_iload_n E dX13_readRepeat_56 rfl 1 rfl ?_
  refine ra_iconst E dX13_readRepeat_57 ki_2 ?_
  refine ra_iadd E dX13_readRepeat_58 ?_
  refine ra_aload_n E dX13_readRepeat_59 rfl 0 rfl ?_
  refine gf_X13_26 E lm13 fl_X13_408 dX13_readRepeat_60 ?_
  obtain ⟨g8, h⟩ := h
  refine ra_iast E (lmM (by decide)) (cel_708 tc ad) g8 dX13_readRepeat_63 ?_
  replace h := h _ rfl
  exact ra_vret E hr dX13_readRepeat_64 h
def f_X13_readRepeat_L20 (fc : Int32 → TM → (TM → Prop) → Prop) (p1 : Int32) (p2 : Int32) (K : TM → Prop) : Nat → Int32 → Int32 → TM → Prop
  | 0, _, _, _ => False
  | n + 1, x1, x2, M => ((¬ (M 699 20) = 0 → f_X13_readRepeat_L46 fc p1 p2 K x1 M) ∧ ((M 699 20) = 0 → f_X13_isSymbol (41 : Int32) M (fun r11 M10 => ((¬ r11 = 0 → f_X13_readRepeat_L46 fc p1 p2 K x1 M10) ∧ (r11 = 0 → fc (x2 + (1 : Int32)) M10 (fun M14 => f_X13_readRepeat_L20 fc p1 p2 K n x1 x2 M14))))))
set_option maxRecDepth 100000 in
set_option maxHeartbeats 4000000 in
theorem l_X13_readRepeat_L20 {p : Program} {l : Launch} {e : Env} {s : State} {m : MethodId} {args : Array Value} {below : List Frame} {meth : Method} {c : Code} {D : va_G} {tc : Nat → ClassId} {ad : Nat → Nat} (fc : Int32 → TM → (TM → Prop) → Prop) (dd : Nat) (hd : 5 ≤ dd) (hfc : ∀ (p1 : Int32) (M : TM) (K : TM → Prop), fc p1 M K → MV yX13_readCommand cX13_readCommand 4 dd ad [.ref (ad 699), .int p1] M K) (p1 : Int32) (p2 : Int32) {K : TM → Prop} (E : Ev p s m args meth c D tc ad RX13 cX13_readRepeat 3) (hr : meth.sig.returnType = none) : ∀ (n : Nat) (x1 : Int32) (x2 : Int32) (M : TM) , f_X13_readRepeat_L20 fc p1 p2 K n x1 x2 M → Wa p l e (rmD (dd + 1)) s m args below meth c 0 0 (MQ below (va_Qv K (EndW D tc ad) (A0 ad s.heap.size)) args s 0 0 (A0 ad s.heap.size)) D tc ad 3 M 20 [(0, .ref (ad 699)), (1, .int x1), (2, .int x2)] [] := by
  intro n
  induction n with
  | zero => intro x1 x2 M  h; exact h.elim
  | succ n ih =>
    intro x1 x2 M  h
    unfold f_X13_readRepeat_L20 at h
    refine ra_aload_n E dX13_readRepeat_20 rfl 0 rfl ?_
    refine gf_X13_20 E lm13 fl_X13_323 dX13_readRepeat_21 ?_
    refine ra_if_ne (tgt := 46) E dX13_readRepeat_24 (by decide) (fun q6 => ?_) (fun q6 => ?_)
    · replace h := h.1 q6
      exact ra_sub (L' := [(0, _), (1, _)]) [0, 1] rfl (l_X13_readRepeat_L46 fc dd hd hfc p1 p2 E hr _ _ h)
    · replace h := h.2 q6
      refine ra_aload_n E dX13_readRepeat_27 rfl 0 rfl ?_
      refine ra_bipush E dX13_readRepeat_28 kb_41 ?_
      refine ra_callIV (rest := []) E (c_X13_isSymbol _ _ _ h) lq_13 cv_X13_isSymbol ml_X13_346 (by decide) (lmM (by decide)) (fun R => ⟨_, cel_699 tc ad R⟩) rfl rfl rfl (Nat.le_of_ble_eq_true rfl) (rR hd (Nat.le_of_ble_eq_true rfl)) ⟨Nat.zero_le _, Nat.zero_le _⟩ dX13_readRepeat_30 (fun r11 M10 h => ?_)
      obtain ⟨b12, h⟩ := h
      refine ra_if_ne (tgt := 46) E dX13_readRepeat_33 (by decide) (fun q13 => ?_) (fun q13 => ?_)
      · replace h := h.1 q13
        exact ra_sub (L' := [(0, _), (1, _)]) [0, 1] rfl (l_X13_readRepeat_L46 fc dd hd hfc p1 p2 E hr _ _ h)
      · replace h := h.2 q13
        refine ra_aload_n E dX13_readRepeat_36 rfl 0 rfl ?_
        refine ra_iload_n E dX13_readRepeat_37 rfl 2 rfl ?_
        refine ra_iconst E dX13_readRepeat_38 ki_1 ?_
        refine ra_iadd E dX13_readRepeat_39 ?_
        refine ra_callVV (rest := []) E (hfc _ _ _ h) lq_13 cv_X13_readCommand ml_X13_405 (by decide) (lmM (by decide)) (fun R => ⟨_, cel_699 tc ad R⟩) rfl rfl rfl (Nat.le_of_ble_eq_true rfl) ⟨Nat.le_refl _, Nat.le_refl _⟩ ⟨Nat.zero_le _, Nat.zero_le _⟩ dX13_readRepeat_40 (fun M14 h => ?_)
        refine ra_goto (tgt := 20) E dX13_readRepeat_43 (by decide) ?_
        exact ra_sub (L' := [(0, _), (1, _), (2, _)]) [0, 1, 2] rfl (ih _ _ _ h)
def f_X13_readRepeat (fc : Int32 → TM → (TM → Prop) → Prop) (p1 : Int32) (p2 : Int32) (M : TM) (K : TM → Prop) : Prop := f_X13_readNumber (2 : Int32) (5 : Int32) M (fun r2 M1 => vp_in (p1 + (1 : Int32)) 100 ∧ ∀ M4, M4 = u2 M1 708 (p1 + (1 : Int32)).toNatClampNeg r2 → f_X13_expect (40 : Int32) M4 (fun M5 => ∃ n, f_X13_readRepeat_L20 fc p1 p2 K n p1 p2 M5))
set_option maxRecDepth 100000 in
set_option maxHeartbeats 4000000 in
theorem c_X13_readRepeat {ad : Nat → Nat} (fc : Int32 → TM → (TM → Prop) → Prop) (dd : Nat) (hd : 5 ≤ dd) (hfc : ∀ (p1 : Int32) (M : TM) (K : TM → Prop), fc p1 M K → MV yX13_readCommand cX13_readCommand 4 dd ad [.ref (ad 699), .int p1] M K) (p1 : Int32) (p2 : Int32) (M : TM) (K : TM → Prop) (h : f_X13_readRepeat fc p1 p2 M K) : MV yX13_readRepeat cX13_readRepeat 3 (dd + 1) ad [.ref (ad 699), .int p1, .int p2] M K := by
  refine MV_of RX13 rfl (by decide +kernel) (Nat.le_of_ble_eq_true rfl) (fun p l e s m below meth c D tc E hr => ?_)
  unfold f_X13_readRepeat at h
  refine ra_aload_n E dX13_readRepeat_0 rfl 0 rfl ?_
  refine gf_X13_24 E lm13 fl_X13_41 dX13_readRepeat_1 ?_
  refine ra_iload_n E dX13_readRepeat_4 rfl 1 rfl ?_
  refine ra_iconst E dX13_readRepeat_5 ki_1 ?_
  refine ra_iadd E dX13_readRepeat_6 ?_
  refine ra_aload_n E dX13_readRepeat_7 rfl 0 rfl ?_
  refine ra_iconst E dX13_readRepeat_8 ki_2 ?_
  refine ra_iconst E dX13_readRepeat_9 ki_5 ?_
  refine ra_callIV (rest := [_, _]) E (c_X13_readNumber _ _ _ _ h) lq_13 cv_X13_readNumber ml_X13_369 (by decide) (lmM (by decide)) (fun R => ⟨_, cel_699 tc ad R⟩) rfl rfl rfl (Nat.le_of_ble_eq_true rfl) (rR hd (Nat.le_of_ble_eq_true rfl)) ⟨Nat.zero_le _, Nat.zero_le _⟩ dX13_readRepeat_10 (fun r2 M1 h => ?_)
  obtain ⟨g3, h⟩ := h
  refine ra_iast E (lmM (by decide)) (cel_708 tc ad) g3 dX13_readRepeat_13 ?_
  replace h := h _ rfl
  refine ra_aload_n E dX13_readRepeat_14 rfl 0 rfl ?_
  refine ra_bipush E dX13_readRepeat_15 kb_40 ?_
  refine ra_callVV (rest := []) E (c_X13_expect _ _ _ h) lq_13 cv_X13_expect ml_X13_372 (by decide) (lmM (by decide)) (fun R => ⟨_, cel_699 tc ad R⟩) rfl rfl rfl (Nat.le_of_ble_eq_true rfl) (rR hd (Nat.le_of_ble_eq_true rfl)) ⟨Nat.zero_le _, Nat.zero_le _⟩ dX13_readRepeat_17 (fun M5 h => ?_)
  obtain ⟨n15, h⟩ := h
  exact ra_sub (L' := [(0, _), (1, _), (2, _)]) [0, 1, 2] rfl (l_X13_readRepeat_L20 fc dd hd hfc p1 p2 E hr n15 _ _ _ h)
def f_X13_readCommand_L157 (fc : Int32 → Int32 → TM → (TM → Prop) → Prop) (p1 : Int32) (K : TM → Prop) (x2 : Int32) (x3 : Int32) (z0 : Int32) (z1 : Int32) (M : TM) : Prop := vp_in z1 100 ∧ ∀ M23, M23 = u2 M 708 z1.toNatClampNeg z0 → ((¬ x2 = (1 : Int32) → vp_in (x3 + (4 : Int32)) 100 ∧ ∀ M26, M26 = u2 M23 708 (x3 + (4 : Int32)).toNatClampNeg (0 : Int32) → f_X13_expect (59 : Int32) M26 (fun M27 => K M27)) ∧ (x2 = (1 : Int32) → f_X13_readNumber (1 : Int32) (500 : Int32) M23 (fun r29 M28 => vp_in (x3 + (4 : Int32)) 100 ∧ ∀ M31, M31 = u2 M28 708 (x3 + (4 : Int32)).toNatClampNeg r29 → f_X13_expect (59 : Int32) M31 (fun M32 => K M32))))
set_option maxRecDepth 100000 in
set_option maxHeartbeats 4000000 in
theorem l_X13_readCommand_L157 {p : Program} {l : Launch} {e : Env} {s : State} {m : MethodId} {args : Array Value} {below : List Frame} {meth : Method} {c : Code} {D : va_G} {tc : Nat → ClassId} {ad : Nat → Nat} (fc : Int32 → Int32 → TM → (TM → Prop) → Prop) (dd : Nat) (hd : 5 ≤ dd) (hfc : ∀ (p1 : Int32) (p2 : Int32) (M : TM) (K : TM → Prop), fc p1 p2 M K → MV yX13_readRepeat cX13_readRepeat 3 dd ad [.ref (ad 699), .int p1, .int p2] M K) (p1 : Int32) {K : TM → Prop} (E : Ev p s m args meth c D tc ad RX13 cX13_readCommand 4) (hr : meth.sig.returnType = none) : ∀ (x2 : Int32) (x3 : Int32) (z0 : Int32) (z1 : Int32) (M : TM) , f_X13_readCommand_L157 fc p1 K x2 x3 z0 z1 M → Wa p l e (rmD (dd + 1)) s m args below meth c 0 0 (MQ below (va_Qv K (EndW D tc ad) (A0 ad s.heap.size)) args s 0 0 (A0 ad s.heap.size)) D tc ad 4 M 157 [(0, .ref (ad 699)), (2, .int x2), (3, .int x3)] [.int z0, .int z1, .ref (ad 708)] := by
  intro x2 x3 z0 z1 M  h
  unfold f_X13_readCommand_L157 at h
  obtain ⟨g22, h⟩ := h
  refine ra_iast E (lmM (by decide)) (cel_708 tc ad) g22 dX13_readCommand_157 ?_
  replace h := h _ rfl
  refine ra_aload_n E dX13_readCommand_158 rfl 0 rfl ?_
  refine gf_X13_24 E lm13 fl_X13_41 dX13_readCommand_159 ?_
  refine ra_iload_n E dX13_readCommand_162 rfl 2 rfl ?_
  refine ra_iconst E dX13_readCommand_163 ki_4 ?_
  refine ra_iadd E dX13_readCommand_164 ?_
  refine ra_iload_n E dX13_readCommand_165 rfl 1 rfl ?_
  refine ra_iconst E dX13_readCommand_166 ki_1 ?_
  refine ra_icmp_ne (tgt := 181) E dX13_readCommand_167 (by decide) (fun q24 => ?_) (fun q24 => ?_)
  · replace h := h.1 q24
    refine ra_iconst E dX13_readCommand_181 ki_0 ?_
    obtain ⟨g25, h⟩ := h
    refine ra_iast E (lmM (by decide)) (cel_708 tc ad) g25 dX13_readCommand_182 ?_
    replace h := h _ rfl
    refine ra_aload_n E dX13_readCommand_183 rfl 0 rfl ?_
    refine ra_bipush E dX13_readCommand_184 kb_59 ?_
    refine ra_callVV (rest := []) E (c_X13_expect _ _ _ h) lq_13 cv_X13_expect ml_X13_372 (by decide) (lmM (by decide)) (fun R => ⟨_, cel_699 tc ad R⟩) rfl rfl rfl (Nat.le_of_ble_eq_true rfl) (rR hd (Nat.le_of_ble_eq_true rfl)) ⟨Nat.zero_le _, Nat.zero_le _⟩ dX13_readCommand_186 (fun M27 h => ?_)
    exact ra_vret E hr dX13_readCommand_189 h
  · replace h := h.2 q24
    refine ra_aload_n E dX13_readCommand_170 rfl 0 rfl ?_
    refine ra_iconst E dX13_readCommand_171 ki_1 ?_
    refine ra_sipush E dX13_readCommand_172 ks_500 ?_
    refine ra_callIV (rest := [_, _]) E (c_X13_readNumber _ _ _ _ h) lq_13 cv_X13_readNumber ml_X13_369 (by decide) (lmM (by decide)) (fun R => ⟨_, cel_699 tc ad R⟩) rfl rfl rfl (Nat.le_of_ble_eq_true rfl) (rR hd (Nat.le_of_ble_eq_true rfl)) ⟨Nat.zero_le _, Nat.zero_le _⟩ dX13_readCommand_175 (fun r29 M28 h => ?_)
    refine ra_goto (tgt := 182) E dX13_readCommand_178 (by decide) ?_
    obtain ⟨g30, h⟩ := h
    refine ra_iast E (lmM (by decide)) (cel_708 tc ad) g30 dX13_readCommand_182 ?_
    replace h := h _ rfl
    refine ra_aload_n E dX13_readCommand_183 rfl 0 rfl ?_
    refine ra_bipush E dX13_readCommand_184 kb_59 ?_
    refine ra_callVV (rest := []) E (c_X13_expect _ _ _ h) lq_13 cv_X13_expect ml_X13_372 (by decide) (lmM (by decide)) (fun R => ⟨_, cel_699 tc ad R⟩) rfl rfl rfl (Nat.le_of_ble_eq_true rfl) (rR hd (Nat.le_of_ble_eq_true rfl)) ⟨Nat.zero_le _, Nat.zero_le _⟩ dX13_readCommand_186 (fun M32 h => ?_)
    exact ra_vret E hr dX13_readCommand_189 h
def f_X13_readCommand_L53 (fc : Int32 → Int32 → TM → (TM → Prop) → Prop) (p1 : Int32) (K : TM → Prop) (x1 : Int32) (x2 : Int32) (z0 : Int32) (M : TM) : Prop := f_X13_check z0 (4 : Int32) M (fun M6 => f_X13_advance M6 (fun M7 => (((M7 699 20) = 0 → vp_in ((5 : Int32) * (M7 699 26)) 100 ∧ ∀ M10, M10 = u2 M7 708 ((5 : Int32) * (M7 699 26)).toNatClampNeg x2 → ∀ M11, M11 = u2 M10 699 26 ((M10 699 26) + (1 : Int32)) → ((¬ x2 = (8 : Int32) → f_X13_readFirst x2 M11 (fun r14 M13 => vp_in (((5 : Int32) * (M7 699 26)) + (1 : Int32)) 100 ∧ ∀ M16, M16 = u2 M13 708 (((5 : Int32) * (M7 699 26)) + (1 : Int32)).toNatClampNeg r14 → f_X13_readSecond x2 M16 (fun r18 M17 => vp_in (((5 : Int32) * (M7 699 26)) + (2 : Int32)) 100 ∧ ∀ M20, M20 = u2 M17 708 (((5 : Int32) * (M7 699 26)) + (2 : Int32)).toNatClampNeg r18 → ((¬ x2 = (1 : Int32) → f_X13_readCommand_L157 fc p1 K x2 ((5 : Int32) * (M7 699 26)) (0 : Int32) (((5 : Int32) * (M7 699 26)) + (3 : Int32)) M20) ∧ (x2 = (1 : Int32) → f_X13_readNumber (1 : Int32) (6 : Int32) M20 (fun r34 M33 => f_X13_readCommand_L157 fc p1 K x2 ((5 : Int32) * (M7 699 26)) r34 (((5 : Int32) * (M7 699 26)) + (3 : Int32)) M33)))))) ∧ (x2 = (8 : Int32) → fc ((5 : Int32) * (M7 699 26)) x1 M11 (fun M35 => f_X13_expect (59 : Int32) M35 (fun M36 => K M36))))) ∧ (¬ (M7 699 20) = 0 → K M7))))
set_option maxRecDepth 100000 in
set_option maxHeartbeats 4000000 in
theorem l_X13_readCommand_L53 {p : Program} {l : Launch} {e : Env} {s : State} {m : MethodId} {args : Array Value} {below : List Frame} {meth : Method} {c : Code} {D : va_G} {tc : Nat → ClassId} {ad : Nat → Nat} (fc : Int32 → Int32 → TM → (TM → Prop) → Prop) (dd : Nat) (hd : 5 ≤ dd) (hfc : ∀ (p1 : Int32) (p2 : Int32) (M : TM) (K : TM → Prop), fc p1 p2 M K → MV yX13_readRepeat cX13_readRepeat 3 dd ad [.ref (ad 699), .int p1, .int p2] M K) (p1 : Int32) {K : TM → Prop} (E : Ev p s m args meth c D tc ad RX13 cX13_readCommand 4) (hr : meth.sig.returnType = none) : ∀ (x1 : Int32) (x2 : Int32) (z0 : Int32) (M : TM) , f_X13_readCommand_L53 fc p1 K x1 x2 z0 M → Wa p l e (rmD (dd + 1)) s m args below meth c 0 0 (MQ below (va_Qv K (EndW D tc ad) (A0 ad s.heap.size)) args s 0 0 (A0 ad s.heap.size)) D tc ad 4 M 53 [(0, .ref (ad 699)), (1, .int x1), (2, .int x2)] [.int z0, .ref (ad 699)] := by
  intro x1 x2 z0 M  h
  unfold f_X13_readCommand_L53 at h
  refine ra_iconst E dX13_readCommand_53 ki_4 ?_
  refine ra_callVV (rest := []) E (c_X13_check _ _ _ _ h) lq_13 cv_X13_check ml_X13_349 (by decide) (lmM (by decide)) (fun R => ⟨_, cel_699 tc ad R⟩) rfl rfl rfl (Nat.le_of_ble_eq_true rfl) (rR hd (Nat.le_of_ble_eq_true rfl)) ⟨Nat.zero_le _, Nat.zero_le _⟩ dX13_readCommand_54 (fun M6 h => ?_)
  refine ra_aload_n E dX13_readCommand_57 rfl 0 rfl ?_
  refine ra_callVV (rest := []) E (c_X13_advance _ _ h) lq_13 cv_X13_advance ml_X13_353 (by decide) (lmM (by decide)) (fun R => ⟨_, cel_699 tc ad R⟩) rfl rfl rfl (Nat.le_of_ble_eq_true rfl) (rR hd (Nat.le_of_ble_eq_true rfl)) ⟨Nat.zero_le _, Nat.zero_le _⟩ dX13_readCommand_58 (fun M7 h => ?_)
  refine ra_aload_n E dX13_readCommand_61 rfl 0 rfl ?_
  refine gf_X13_20 E lm13 fl_X13_323 dX13_readCommand_62 ?_
  refine ra_if_eq (tgt := 69) E dX13_readCommand_65 (by decide) (fun q8 => ?_) (fun q8 => ?_)
  · replace h := h.1 q8
    refine ra_iconst E dX13_readCommand_69 ki_5 ?_
    refine ra_aload_n E dX13_readCommand_70 rfl 0 rfl ?_
    refine gf_X13_26 E lm13 fl_X13_408 dX13_readCommand_71 ?_
    refine ra_imul E dX13_readCommand_74 ?_
    refine ra_istore_n (L' := [(3, _), (0, _), (1, _), (2, _)]) E dX13_readCommand_75 rfl (by decide) rfl ?_
    refine ra_aload_n E dX13_readCommand_76 rfl 1 rfl ?_
    refine gf_X13_24 E lm13 fl_X13_41 dX13_readCommand_77 ?_
    refine ra_iload_n E dX13_readCommand_80 rfl 0 rfl ?_
    refine ra_iload_n E dX13_readCommand_81 rfl 3 rfl ?_
    obtain ⟨g9, h⟩ := h
    refine ra_iast E (lmM (by decide)) (cel_708 tc ad) g9 dX13_readCommand_82 ?_
    replace h := h _ rfl
    refine ra_aload_n E dX13_readCommand_83 rfl 1 rfl ?_
    refine ra_dup E dX13_readCommand_84 rfl ?_
    refine gf_X13_26 E lm13 fl_X13_408 dX13_readCommand_85 ?_
    refine ra_iconst E dX13_readCommand_88 ki_1 ?_
    refine ra_iadd E dX13_readCommand_89 ?_
    refine pf_X13_26 E lm13 fl_X13_408 dX13_readCommand_90 ?_
    replace h := h _ rfl
    refine ra_iload_n E dX13_readCommand_93 rfl 3 rfl ?_
    refine ra_bipush E dX13_readCommand_94 kb_8 ?_
    refine ra_icmp_ne (tgt := 108) E dX13_readCommand_96 (by decide) (fun q12 => ?_) (fun q12 => ?_)
    · replace h := h.1 q12
      refine ra_aload_n E dX13_readCommand_108 rfl 1 rfl ?_
      refine gf_X13_24 E lm13 fl_X13_41 dX13_readCommand_109 ?_
      refine ra_iload_n E dX13_readCommand_112 rfl 0 rfl ?_
      refine ra_iconst E dX13_readCommand_113 ki_1 ?_
      refine ra_iadd E dX13_readCommand_114 ?_
      refine ra_aload_n E dX13_readCommand_115 rfl 1 rfl ?_
      refine ra_iload_n E dX13_readCommand_116 rfl 3 rfl ?_
      refine ra_callIV (rest := [_, _]) E (c_X13_readFirst _ _ _ h) lq_13 cv_X13_readFirst ml_X13_417 (by decide) (lmM (by decide)) (fun R => ⟨_, cel_699 tc ad R⟩) rfl rfl rfl (Nat.le_of_ble_eq_true rfl) (rR hd (Nat.le_of_ble_eq_true rfl)) ⟨Nat.zero_le _, Nat.zero_le _⟩ dX13_readCommand_117 (fun r14 M13 h => ?_)
      obtain ⟨g15, h⟩ := h
      refine ra_iast E (lmM (by decide)) (cel_708 tc ad) g15 dX13_readCommand_120 ?_
      replace h := h _ rfl
      refine ra_aload_n E dX13_readCommand_121 rfl 1 rfl ?_
      refine gf_X13_24 E lm13 fl_X13_41 dX13_readCommand_122 ?_
      refine ra_iload_n E dX13_readCommand_125 rfl 0 rfl ?_
      refine ra_iconst E dX13_readCommand_126 ki_2 ?_
      refine ra_iadd E dX13_readCommand_127 ?_
      refine ra_aload_n E dX13_readCommand_128 rfl 1 rfl ?_
      refine ra_iload_n E dX13_readCommand_129 rfl 3 rfl ?_
      refine ra_callIV (rest := [_, _]) E (c_X13_readSecond _ _ _ h) lq_13 cv_X13_readSecond ml_X13_420 (by decide) (lmM (by decide)) (fun R => ⟨_, cel_699 tc ad R⟩) rfl rfl rfl (Nat.le_of_ble_eq_true rfl) (rR hd (Nat.le_of_ble_eq_true rfl)) ⟨Nat.zero_le _, Nat.zero_le _⟩ dX13_readCommand_130 (fun r18 M17 h => ?_)
      obtain ⟨g19, h⟩ := h
      refine ra_iast E (lmM (by decide)) (cel_708 tc ad) g19 dX13_readCommand_133 ?_
      replace h := h _ rfl
      refine ra_aload_n E dX13_readCommand_134 rfl 1 rfl ?_
      refine gf_X13_24 E lm13 fl_X13_41 dX13_readCommand_135 ?_
      refine ra_iload_n E dX13_readCommand_138 rfl 0 rfl ?_
      refine ra_iconst E dX13_readCommand_139 ki_3 ?_
      refine ra_iadd E dX13_readCommand_140 ?_
      refine ra_iload_n E dX13_readCommand_141 rfl 3 rfl ?_
      refine ra_iconst E dX13_readCommand_142 ki_1 ?_
      refine ra_icmp_ne (tgt := 156) E dX13_readCommand_143 (by decide) (fun q21 => ?_) (fun q21 => ?_)
      · replace h := h.1 q21
        refine ra_iconst E dX13_readCommand_156 ki_0 ?_
        exact ra_sub (L' := [(0, _), (2, _), (3, _)]) [1, 3, 0] rfl (l_X13_readCommand_L157 fc dd hd hfc p1 E hr _ _ _ _ _ h)
      · replace h := h.2 q21
        refine ra_aload_n E dX13_readCommand_146 rfl 1 rfl ?_
        refine ra_iconst E dX13_readCommand_147 ki_1 ?_
        refine ra_bipush E dX13_readCommand_148 kb_6 ?_
        refine ra_callIV (rest := [_, _]) E (c_X13_readNumber _ _ _ _ h) lq_13 cv_X13_readNumber ml_X13_369 (by decide) (lmM (by decide)) (fun R => ⟨_, cel_699 tc ad R⟩) rfl rfl rfl (Nat.le_of_ble_eq_true rfl) (rR hd (Nat.le_of_ble_eq_true rfl)) ⟨Nat.zero_le _, Nat.zero_le _⟩ dX13_readCommand_150 (fun r34 M33 h => ?_)
        refine ra_goto (tgt := 157) E dX13_readCommand_153 (by decide) ?_
        exact ra_sub (L' := [(0, _), (2, _), (3, _)]) [1, 3, 0] rfl (l_X13_readCommand_L157 fc dd hd hfc p1 E hr _ _ _ _ _ h)
    · replace h := h.2 q12
      refine ra_aload_n E dX13_readCommand_99 rfl 1 rfl ?_
      refine ra_iload_n E dX13_readCommand_100 rfl 0 rfl ?_
      refine ra_iload_n E dX13_readCommand_101 rfl 2 rfl ?_
      refine ra_callVV (rest := []) E (hfc _ _ _ _ h) lq_13 cv_X13_readRepeat ml_X13_414 (by decide) (lmM (by decide)) (fun R => ⟨_, cel_699 tc ad R⟩) rfl rfl rfl (Nat.le_of_ble_eq_true rfl) ⟨Nat.le_refl _, Nat.le_refl _⟩ ⟨Nat.zero_le _, Nat.zero_le _⟩ dX13_readCommand_102 (fun M35 h => ?_)
      refine ra_goto (tgt := 183) E dX13_readCommand_105 (by decide) ?_
      refine ra_aload_n E dX13_readCommand_183 rfl 1 rfl ?_
      refine ra_bipush E dX13_readCommand_184 kb_59 ?_
      refine ra_callVV (rest := []) E (c_X13_expect _ _ _ h) lq_13 cv_X13_expect ml_X13_372 (by decide) (lmM (by decide)) (fun R => ⟨_, cel_699 tc ad R⟩) rfl rfl rfl (Nat.le_of_ble_eq_true rfl) (rR hd (Nat.le_of_ble_eq_true rfl)) ⟨Nat.zero_le _, Nat.zero_le _⟩ dX13_readCommand_186 (fun M36 h => ?_)
      exact ra_vret E hr dX13_readCommand_189 h
  · replace h := h.2 q8
    exact ra_vret E hr dX13_readCommand_68 h
def f_X13_readCommand_L48 (fc : Int32 → Int32 → TM → (TM → Prop) → Prop) (p1 : Int32) (K : TM → Prop) (x1 : Int32) (x2 : Int32) (M : TM) : Prop := f_X13_readCommand_L53 fc p1 K x1 x2 (1 : Int32) M
set_option maxRecDepth 100000 in
set_option maxHeartbeats 4000000 in
theorem l_X13_readCommand_L48 {p : Program} {l : Launch} {e : Env} {s : State} {m : MethodId} {args : Array Value} {below : List Frame} {meth : Method} {c : Code} {D : va_G} {tc : Nat → ClassId} {ad : Nat → Nat} (fc : Int32 → Int32 → TM → (TM → Prop) → Prop) (dd : Nat) (hd : 5 ≤ dd) (hfc : ∀ (p1 : Int32) (p2 : Int32) (M : TM) (K : TM → Prop), fc p1 p2 M K → MV yX13_readRepeat cX13_readRepeat 3 dd ad [.ref (ad 699), .int p1, .int p2] M K) (p1 : Int32) {K : TM → Prop} (E : Ev p s m args meth c D tc ad RX13 cX13_readCommand 4) (hr : meth.sig.returnType = none) : ∀ (x1 : Int32) (x2 : Int32) (M : TM) , f_X13_readCommand_L48 fc p1 K x1 x2 M → Wa p l e (rmD (dd + 1)) s m args below meth c 0 0 (MQ below (va_Qv K (EndW D tc ad) (A0 ad s.heap.size)) args s 0 0 (A0 ad s.heap.size)) D tc ad 4 M 48 [(0, .ref (ad 699)), (1, .int x1), (2, .int x2)] [.ref (ad 699)] := by
  intro x1 x2 M  h
  unfold f_X13_readCommand_L48 at h
  refine ra_iconst E dX13_readCommand_48 ki_1 ?_
  refine ra_goto (tgt := 53) E dX13_readCommand_49 (by decide) ?_
  exact ra_sub (L' := [(0, _), (1, _), (2, _)]) [0, 1, 2] rfl (l_X13_readCommand_L53 fc dd hd hfc p1 E hr _ _ _ _ h)
def f_X13_readCommand_L52 (fc : Int32 → Int32 → TM → (TM → Prop) → Prop) (p1 : Int32) (K : TM → Prop) (x1 : Int32) (x2 : Int32) (M : TM) : Prop := f_X13_readCommand_L53 fc p1 K x1 x2 (0 : Int32) M
set_option maxRecDepth 100000 in
set_option maxHeartbeats 4000000 in
theorem l_X13_readCommand_L52 {p : Program} {l : Launch} {e : Env} {s : State} {m : MethodId} {args : Array Value} {below : List Frame} {meth : Method} {c : Code} {D : va_G} {tc : Nat → ClassId} {ad : Nat → Nat} (fc : Int32 → Int32 → TM → (TM → Prop) → Prop) (dd : Nat) (hd : 5 ≤ dd) (hfc : ∀ (p1 : Int32) (p2 : Int32) (M : TM) (K : TM → Prop), fc p1 p2 M K → MV yX13_readRepeat cX13_readRepeat 3 dd ad [.ref (ad 699), .int p1, .int p2] M K) (p1 : Int32) {K : TM → Prop} (E : Ev p s m args meth c D tc ad RX13 cX13_readCommand 4) (hr : meth.sig.returnType = none) : ∀ (x1 : Int32) (x2 : Int32) (M : TM) , f_X13_readCommand_L52 fc p1 K x1 x2 M → Wa p l e (rmD (dd + 1)) s m args below meth c 0 0 (MQ below (va_Qv K (EndW D tc ad) (A0 ad s.heap.size)) args s 0 0 (A0 ad s.heap.size)) D tc ad 4 M 52 [(0, .ref (ad 699)), (1, .int x1), (2, .int x2)] [.ref (ad 699)] := by
  intro x1 x2 M  h
  unfold f_X13_readCommand_L52 at h
  refine ra_iconst E dX13_readCommand_52 ki_0 ?_
  exact ra_sub (L' := [(0, _), (1, _), (2, _)]) [0, 1, 2] rfl (l_X13_readCommand_L53 fc dd hd hfc p1 E hr _ _ _ _ h)
def f_X13_readCommand_L16 (fc : Int32 → Int32 → TM → (TM → Prop) → Prop) (p1 : Int32) (K : TM → Prop) (x1 : Int32) (x2 : Int32) (z0 : Int32) (M : TM) : Prop := f_X13_check z0 (1 : Int32) M (fun M4 => ((¬ (M4 699 20) = 0 → f_X13_readCommand_L48 fc p1 K x1 x2 M4) ∧ ((M4 699 20) = 0 → (((20 : Int32) ≤ (M4 699 26) → f_X13_readCommand_L52 fc p1 K x1 x2 M4) ∧ (¬ (20 : Int32) ≤ (M4 699 26) → ((¬ x2 = (8 : Int32) → f_X13_readCommand_L48 fc p1 K x1 x2 M4) ∧ (x2 = (8 : Int32) → (((2 : Int32) ≤ x1 → f_X13_readCommand_L52 fc p1 K x1 x2 M4) ∧ (¬ (2 : Int32) ≤ x1 → f_X13_readCommand_L48 fc p1 K x1 x2 M4)))))))))
set_option maxRecDepth 100000 in
set_option maxHeartbeats 4000000 in
theorem l_X13_readCommand_L16 {p : Program} {l : Launch} {e : Env} {s : State} {m : MethodId} {args : Array Value} {below : List Frame} {meth : Method} {c : Code} {D : va_G} {tc : Nat → ClassId} {ad : Nat → Nat} (fc : Int32 → Int32 → TM → (TM → Prop) → Prop) (dd : Nat) (hd : 5 ≤ dd) (hfc : ∀ (p1 : Int32) (p2 : Int32) (M : TM) (K : TM → Prop), fc p1 p2 M K → MV yX13_readRepeat cX13_readRepeat 3 dd ad [.ref (ad 699), .int p1, .int p2] M K) (p1 : Int32) {K : TM → Prop} (E : Ev p s m args meth c D tc ad RX13 cX13_readCommand 4) (hr : meth.sig.returnType = none) : ∀ (x1 : Int32) (x2 : Int32) (z0 : Int32) (M : TM) , f_X13_readCommand_L16 fc p1 K x1 x2 z0 M → Wa p l e (rmD (dd + 1)) s m args below meth c 0 0 (MQ below (va_Qv K (EndW D tc ad) (A0 ad s.heap.size)) args s 0 0 (A0 ad s.heap.size)) D tc ad 4 M 16 [(0, .ref (ad 699)), (1, .int x1), (2, .int x2)] [.int z0, .ref (ad 699)] := by
  intro x1 x2 z0 M  h
  unfold f_X13_readCommand_L16 at h
  refine ra_iconst E dX13_readCommand_16 ki_1 ?_
  refine ra_callVV (rest := []) E (c_X13_check _ _ _ _ h) lq_13 cv_X13_check ml_X13_349 (by decide) (lmM (by decide)) (fun R => ⟨_, cel_699 tc ad R⟩) rfl rfl rfl (Nat.le_of_ble_eq_true rfl) (rR hd (Nat.le_of_ble_eq_true rfl)) ⟨Nat.zero_le _, Nat.zero_le _⟩ dX13_readCommand_17 (fun M4 h => ?_)
  refine ra_aload_n E dX13_readCommand_20 rfl 0 rfl ?_
  refine ra_aload_n E dX13_readCommand_21 rfl 0 rfl ?_
  refine gf_X13_20 E lm13 fl_X13_323 dX13_readCommand_22 ?_
  refine ra_if_ne (tgt := 48) E dX13_readCommand_25 (by decide) (fun q5 => ?_) (fun q5 => ?_)
  · replace h := h.1 q5
    exact ra_sub (L' := [(0, _), (1, _), (2, _)]) [0, 1, 2] rfl (l_X13_readCommand_L48 fc dd hd hfc p1 E hr _ _ _ h)
  · replace h := h.2 q5
    refine ra_aload_n E dX13_readCommand_28 rfl 0 rfl ?_
    refine gf_X13_26 E lm13 fl_X13_408 dX13_readCommand_29 ?_
    refine ra_bipush E dX13_readCommand_32 kb_20 ?_
    refine ra_icmp_ge (tgt := 52) E dX13_readCommand_34 (by decide) (fun q37 => ?_) (fun q37 => ?_)
    · replace h := h.1 q37
      exact ra_sub (L' := [(0, _), (1, _), (2, _)]) [0, 1, 2] rfl (l_X13_readCommand_L52 fc dd hd hfc p1 E hr _ _ _ h)
    · replace h := h.2 q37
      refine ra_iload_n E dX13_readCommand_37 rfl 2 rfl ?_
      refine ra_bipush E dX13_readCommand_38 kb_8 ?_
      refine ra_icmp_ne (tgt := 48) E dX13_readCommand_40 (by decide) (fun q38 => ?_) (fun q38 => ?_)
      · replace h := h.1 q38
        exact ra_sub (L' := [(0, _), (1, _), (2, _)]) [0, 1, 2] rfl (l_X13_readCommand_L48 fc dd hd hfc p1 E hr _ _ _ h)
      · replace h := h.2 q38
        refine ra_iload_n E dX13_readCommand_43 rfl 1 rfl ?_
        refine ra_iconst E dX13_readCommand_44 ki_2 ?_
        refine ra_icmp_ge (tgt := 52) E dX13_readCommand_45 (by decide) (fun q39 => ?_) (fun q39 => ?_)
        · replace h := h.1 q39
          exact ra_sub (L' := [(0, _), (1, _), (2, _)]) [0, 1, 2] rfl (l_X13_readCommand_L52 fc dd hd hfc p1 E hr _ _ _ h)
        · replace h := h.2 q39
          exact ra_sub (L' := [(0, _), (1, _), (2, _)]) [0, 1, 2] rfl (l_X13_readCommand_L48 fc dd hd hfc p1 E hr _ _ _ h)
def f_X13_readCommand (fc : Int32 → Int32 → TM → (TM → Prop) → Prop) (p1 : Int32) (M : TM) (K : TM → Prop) : Prop := f_X13_commandHere M (fun r2 M1 => ((r2 = (-1 : Int32) → f_X13_readCommand_L16 fc p1 K p1 r2 (0 : Int32) M1) ∧ (¬ r2 = (-1 : Int32) → f_X13_readCommand_L16 fc p1 K p1 r2 (1 : Int32) M1)))
set_option maxRecDepth 100000 in
set_option maxHeartbeats 4000000 in
theorem c_X13_readCommand {ad : Nat → Nat} (fc : Int32 → Int32 → TM → (TM → Prop) → Prop) (dd : Nat) (hd : 5 ≤ dd) (hfc : ∀ (p1 : Int32) (p2 : Int32) (M : TM) (K : TM → Prop), fc p1 p2 M K → MV yX13_readRepeat cX13_readRepeat 3 dd ad [.ref (ad 699), .int p1, .int p2] M K) (p1 : Int32) (M : TM) (K : TM → Prop) (h : f_X13_readCommand fc p1 M K) : MV yX13_readCommand cX13_readCommand 4 (dd + 1) ad [.ref (ad 699), .int p1] M K := by
  refine MV_of RX13 rfl (by decide +kernel) (Nat.le_of_ble_eq_true rfl) (fun p l e s m below meth c D tc E hr => ?_)
  unfold f_X13_readCommand at h
  refine ra_aload_n E dX13_readCommand_0 rfl 0 rfl ?_
  refine ra_callIV (rest := []) E (c_X13_commandHere _ _ h) lq_13 cv_X13_commandHere ml_X13_411 (by decide) (lmM (by decide)) (fun R => ⟨_, cel_699 tc ad R⟩) rfl rfl rfl (Nat.le_of_ble_eq_true rfl) (rR hd (Nat.le_of_ble_eq_true rfl)) ⟨Nat.zero_le _, Nat.zero_le _⟩ dX13_readCommand_1 (fun r2 M1 h => ?_)
  refine ra_istore_n (L' := [(2, _), (0, _), (1, _)]) E dX13_readCommand_4 rfl (by decide) rfl ?_
  refine ra_aload_n E dX13_readCommand_5 rfl 1 rfl ?_
  refine ra_iload_n E dX13_readCommand_6 rfl 0 rfl ?_
  refine ra_iconst E dX13_readCommand_7 ki_m1 ?_
  refine ra_icmp_eq (tgt := 15) E dX13_readCommand_8 (by decide) (fun q3 => ?_) (fun q3 => ?_)
  · replace h := h.1 q3
    refine ra_iconst E dX13_readCommand_15 ki_0 ?_
    exact ra_sub (L' := [(0, _), (1, _), (2, _)]) [1, 2, 0] rfl (l_X13_readCommand_L16 fc dd hd hfc p1 E hr _ _ _ _ h)
  · replace h := h.2 q3
    refine ra_iconst E dX13_readCommand_11 ki_1 ?_
    refine ra_goto (tgt := 16) E dX13_readCommand_12 (by decide) ?_
    exact ra_sub (L' := [(0, _), (1, _), (2, _)]) [1, 2, 0] rfl (l_X13_readCommand_L16 fc dd hd hfc p1 E hr _ _ _ _ h)
def f_X13_readCommandR : Nat → Int32 → TM → (TM → Prop) → Prop
  | 0 => fun _ _ _ => False
  | k + 1 => fun p1 M K => f_X13_readCommand (fun p1 p2 M K => f_X13_readRepeat (f_X13_readCommandR k) p1 p2 M K) p1 M K
theorem c_X13_readCommandR {ad : Nat → Nat} : ∀ (k : Nat) (p1 : Int32) (M : TM) (K : TM → Prop), f_X13_readCommandR k p1 M K → MV yX13_readCommand cX13_readCommand 4 (5 + 2 * k) ad [.ref (ad 699), .int p1] M K := by
  intro k
  induction k with
  | zero => intro p1 M K h; exact h.elim
  | succ k ih => intro p1 M K h; exact c_X13_readCommand (fun p1 p2 M K => f_X13_readRepeat (f_X13_readCommandR k) p1 p2 M K) (5 + 2 * k + 1) (by omega) (fun p1 p2 M K h => c_X13_readRepeat (f_X13_readCommandR k) (5 + 2 * k) (by omega) ih p1 p2 M K h) p1 M K h
def f_X13_readRepeatC (p1 : Int32) (p2 : Int32) (M : TM) (K : TM → Prop) : Prop := f_X13_readRepeat (f_X13_readCommandR 3) p1 p2 M K
theorem c_X13_readRepeatC {ad : Nat → Nat} (p1 : Int32) (p2 : Int32) (M : TM) (K : TM → Prop) (h : f_X13_readRepeatC p1 p2 M K) : MV yX13_readRepeat cX13_readRepeat 3 12 ad [.ref (ad 699), .int p1, .int p2] M K := c_X13_readRepeat (f_X13_readCommandR 3) 11 (by omega) (c_X13_readCommandR 3) p1 p2 M K h
def f_X13_readCommandC (p1 : Int32) (M : TM) (K : TM → Prop) : Prop := f_X13_readCommandR 3 p1 M K
theorem c_X13_readCommandC {ad : Nat → Nat} (p1 : Int32) (M : TM) (K : TM → Prop) (h : f_X13_readCommandC p1 M K) : MV yX13_readCommand cX13_readCommand 4 11 ad [.ref (ad 699), .int p1] M K := c_X13_readCommandR 3 p1 M K h
def f_X2_passAtMost_L2 (a0 : Nat) (p1 : Int32) (K : TM → Prop) : Nat → Int32 → Int32 → TM → Prop
  | 0, _, _, _ => False
  | n + 1, x1, x2, M => ((x1 ≤ x2 → K M) ∧ (¬ x1 ≤ x2 → f_X2_canPass a0 (1 : Int32) M (fun r3 M2 => ((r3 = 0 → K M2) ∧ (¬ r3 = 0 → f_X2_moveBarges a0 M2 (fun M6 => f_X2_pullNoodles a0 M6 (fun M7 => f_X2_serveOrders a0 M7 (fun M8 => f_X2_expireOrders a0 M8 (fun M9 => ∀ M10, M10 = u2 M9 a0 8 ((M9 a0 8) + (1 : Int32)) → f_X2_passAtMost_L2 a0 p1 K n x1 (x2 + 1) M10)))))))))
set_option maxRecDepth 100000 in
set_option maxHeartbeats 4000000 in
theorem l_X2_passAtMost_L2 {p : Program} {l : Launch} {e : Env} {s : State} {m : MethodId} {args : Array Value} {below : List Frame} {meth : Method} {c : Code} {D : va_G} {tc : Nat → ClassId} {ad : Nat → Nat} (a0 : Nat) (h0 : IsCanal a0) (p1 : Int32) {K : TM → Prop} (E : Ev p s m args meth c D tc ad RX2 cX2_passAtMost 3) (hr : meth.sig.returnType = none) : ∀ (n : Nat) (x1 : Int32) (x2 : Int32) (M : TM) , f_X2_passAtMost_L2 a0 p1 K n x1 x2 M → Wa p l e (rmD 3) s m args below meth c 0 0 (MQ below (va_Qv K (EndW D tc ad) (A0 ad s.heap.size)) args s 0 0 (A0 ad s.heap.size)) D tc ad 3 M 2 [(0, .ref (ad a0)), (1, .int x1), (2, .int x2)] [] := by
  intro n
  induction n with
  | zero => intro x1 x2 M  h; exact h.elim
  | succ n ih =>
    intro x1 x2 M  h
    unfold f_X2_passAtMost_L2 at h
    refine ra_iload_n E dX2_passAtMost_2 rfl 2 rfl ?_
    refine ra_iload_n E dX2_passAtMost_3 rfl 1 rfl ?_
    refine ra_icmp_ge (tgt := 47) E dX2_passAtMost_4 (by decide) (fun q1 => ?_) (fun q1 => ?_)
    · replace h := h.1 q1
      exact ra_vret E hr dX2_passAtMost_47 h
    · replace h := h.2 q1
      refine ra_aload_n E dX2_passAtMost_7 rfl 0 rfl ?_
      refine ra_iconst E dX2_passAtMost_8 ki_1 ?_
      refine ra_callIV (rest := []) E (c_X2_canPass _ h0 _ _ _ h) (lq_X2 _) cv_X2_canPass ml_X2_225 (by decide) (lm (h0.add (j := 0) (by decide))) (fun R => ⟨_, cel_canal tc ad h0 R⟩) rfl rfl rfl (Nat.le_of_ble_eq_true rfl) ⟨Nat.le_of_ble_eq_true rfl, Nat.le_of_ble_eq_true rfl⟩ ⟨Nat.zero_le _, Nat.zero_le _⟩ dX2_passAtMost_9 (fun r3 M2 h => ?_)
      obtain ⟨b4, h⟩ := h
      refine ra_if_eq (tgt := 47) E dX2_passAtMost_12 (by decide) (fun q5 => ?_) (fun q5 => ?_)
      · replace h := h.1 q5
        exact ra_vret E hr dX2_passAtMost_47 h
      · replace h := h.2 q5
        refine ra_aload_n E dX2_passAtMost_15 rfl 0 rfl ?_
        refine ra_callVV (rest := []) E (c_X2_moveBarges _ h0 _ _ h) (lq_X2 _) cv_X2_moveBarges ml_X2_228 (by decide) (lm (h0.add (j := 0) (by decide))) (fun R => ⟨_, cel_canal tc ad h0 R⟩) rfl rfl rfl (Nat.le_of_ble_eq_true rfl) ⟨Nat.le_of_ble_eq_true rfl, Nat.le_of_ble_eq_true rfl⟩ ⟨Nat.zero_le _, Nat.zero_le _⟩ dX2_passAtMost_16 (fun M6 h => ?_)
        refine ra_aload_n E dX2_passAtMost_19 rfl 0 rfl ?_
        refine ra_callVV (rest := []) E (c_X2_pullNoodles _ h0 _ _ h) (lq_X2 _) cv_X2_pullNoodles ml_X2_231 (by decide) (lm (h0.add (j := 0) (by decide))) (fun R => ⟨_, cel_canal tc ad h0 R⟩) rfl rfl rfl (Nat.le_of_ble_eq_true rfl) ⟨Nat.le_of_ble_eq_true rfl, Nat.le_of_ble_eq_true rfl⟩ ⟨Nat.zero_le _, Nat.zero_le _⟩ dX2_passAtMost_20 (fun M7 h => ?_)
        refine ra_aload_n E dX2_passAtMost_23 rfl 0 rfl ?_
        refine ra_callVV (rest := []) E (c_X2_serveOrders _ h0 _ _ h) (lq_X2 _) cv_X2_serveOrders ml_X2_234 (by decide) (lm (h0.add (j := 0) (by decide))) (fun R => ⟨_, cel_canal tc ad h0 R⟩) rfl rfl rfl (Nat.le_of_ble_eq_true rfl) ⟨Nat.le_of_ble_eq_true rfl, Nat.le_of_ble_eq_true rfl⟩ ⟨Nat.zero_le _, Nat.zero_le _⟩ dX2_passAtMost_24 (fun M8 h => ?_)
        refine ra_aload_n E dX2_passAtMost_27 rfl 0 rfl ?_
        refine ra_callVV (rest := []) E (c_X2_expireOrders _ h0 _ _ h) (lq_X2 _) cv_X2_expireOrders ml_X2_237 (by decide) (lm (h0.add (j := 0) (by decide))) (fun R => ⟨_, cel_canal tc ad h0 R⟩) rfl rfl rfl (Nat.le_of_ble_eq_true rfl) ⟨Nat.le_of_ble_eq_true rfl, Nat.le_of_ble_eq_true rfl⟩ ⟨Nat.zero_le _, Nat.zero_le _⟩ dX2_passAtMost_28 (fun M9 h => ?_)
        refine ra_aload_n E dX2_passAtMost_31 rfl 0 rfl ?_
        refine ra_dup E dX2_passAtMost_32 rfl ?_
        refine gf_X2_8 E h0 fl_X2_46 dX2_passAtMost_33 ?_
        refine ra_iconst E dX2_passAtMost_36 ki_1 ?_
        refine ra_iadd E dX2_passAtMost_37 ?_
        refine pf_X2_8 E h0 fl_X2_46 dX2_passAtMost_38 ?_
        replace h := h _ rfl
        refine ra_iinc1 (L' := [(2, _), (0, _), (1, _)]) E dX2_passAtMost_41 2 rfl (by decide) rfl ?_
        refine ra_goto (tgt := 2) E dX2_passAtMost_44 (by decide) ?_
        exact ra_sub (L' := [(0, _), (1, _), (2, _)]) [1, 2, 0] rfl (ih _ _ _ h)
def f_X2_passAtMost (a0 : Nat) (p1 : Int32) (M : TM) (K : TM → Prop) : Prop := ∃ n, f_X2_passAtMost_L2 a0 p1 K n p1 (0 : Int32) M
set_option maxRecDepth 100000 in
set_option maxHeartbeats 4000000 in
theorem c_X2_passAtMost {ad : Nat → Nat} (a0 : Nat) (h0 : IsCanal a0) (p1 : Int32) (M : TM) (K : TM → Prop) (h : f_X2_passAtMost a0 p1 M K) : MV yX2_passAtMost cX2_passAtMost 3 3 ad [.ref (ad a0), .int p1] M K := by
  refine MV_of RX2 rfl (by decide +kernel) (Nat.le_of_ble_eq_true rfl) (fun p l e s m below meth c D tc E hr => ?_)
  unfold f_X2_passAtMost at h
  refine ra_iconst E dX2_passAtMost_0 ki_0 ?_
  refine ra_istore_n (L' := [(2, _), (0, _), (1, _)]) E dX2_passAtMost_1 rfl (by decide) rfl ?_
  obtain ⟨n11, h⟩ := h
  exact ra_sub (L' := [(0, _), (1, _), (2, _)]) [1, 2, 0] rfl (l_X2_passAtMost_L2 a0 h0 p1 E hr n11 _ _ _ h)
def f_X8_execute (a0 : Nat) (a1 : Nat) (M : TM) (K : TM → Prop) : Prop := vp_in (M a1 0) 9 ∧ vp_in (M a1 0) 9 ∧ ((((M a1 0) + 1) = 1 → f_X2_setTarget a0 (M a1 1) (M a1 2) M (fun M4 => K M4)) ∧ (((M a1 0) + 1) = 2 → f_X2_addOrder a0 (M a1 1) (M a1 2) (M a1 3) (M a1 4) M (fun M5 => K M5)) ∧ (((M a1 0) + 1) = 3 → f_X2_give a0 (M a1 1) (M a1 2) M (fun M6 => K M6)) ∧ (((M a1 0) + 1) = 4 → f_X2_reopen a0 (M a1 1) M (fun M7 => K M7)) ∧ (((M a1 0) + 1) = 5 → f_X2_loadFlour a0 (M a1 1) (M a1 2) M (fun M8 => K M8)) ∧ (((M a1 0) + 1) = 6 → f_X2_gather a0 (M a1 1) M (fun M9 => K M9)) ∧ (((M a1 0) + 1) = 7 → f_X2_clean a0 (M a1 1) M (fun M10 => K M10)) ∧ (((M a1 0) + 1) = 8 → f_X2_passAtMost a0 (M a1 1) M (fun M11 => K M11)) ∧ (¬ ((M a1 0) + 1) = 1 → ¬ ((M a1 0) + 1) = 2 → ¬ ((M a1 0) + 1) = 3 → ¬ ((M a1 0) + 1) = 4 → ¬ ((M a1 0) + 1) = 5 → ¬ ((M a1 0) + 1) = 6 → ¬ ((M a1 0) + 1) = 7 → ¬ ((M a1 0) + 1) = 8 → K M))
set_option maxRecDepth 100000 in
set_option maxHeartbeats 4000000 in
theorem c_X8_execute {ad : Nat → Nat} (a0 : Nat) (h0 : IsCanal a0) (a1 : Nat) (h1 : IsCmd a1) (M : TM) (K : TM → Prop) (h : f_X8_execute a0 a1 M K) : MV yX8_execute cX8_execute 2 4 ad [.ref (ad a0), .ref (ad a1)] M K := by
  refine MV_of RX8 rfl (by decide +kernel) (Nat.le_of_ble_eq_true rfl) (fun p l e s m below meth c D tc E hr => ?_)
  unfold f_X8_execute at h
  refine gs_smap E fl_X8_85 dX8_execute_0 ?_
  refine ra_aload_n E dX8_execute_3 rfl 1 rfl ?_
  refine gf_X4_0 E h1 fl_X8_63 dX8_execute_4 ?_
  obtain ⟨g1, h⟩ := h
  refine ra_ordinal E g1 ml_X8_91 (Nat.le_of_ble_eq_true rfl) ⟨Nat.le_of_ble_eq_true rfl, Nat.le_of_ble_eq_true rfl⟩ ⟨Nat.zero_le _, Nat.zero_le _⟩ dX8_execute_7 ?_
  obtain ⟨g2, h⟩ := h
  refine ia_smap E g2 dX8_execute_10 ?_
  by_cases q3_0 : ((M a1 0) + 1) = 1
  · replace h := h.1 q3_0
    refine ra_tableIn (tgt := 56) (off := 45) E dX8_execute_11 (by rw [q3_0]; decide) (by rw [q3_0]; decide) (by rw [q3_0]; decide) (by decide) ?_
    refine ra_aload_n E dX8_execute_56 rfl 0 rfl ?_
    refine ra_aload_n E dX8_execute_57 rfl 1 rfl ?_
    refine gf_X4_1 E h1 fl_X8_99 dX8_execute_58 ?_
    refine ra_aload_n E dX8_execute_61 rfl 1 rfl ?_
    refine gf_X4_2 E h1 fl_X8_102 dX8_execute_62 ?_
    refine ra_callVV (rest := []) E (c_X2_setTarget _ h0 _ _ _ _ h) (lq_X2 _) cv_X2_setTarget ml_X8_154 (by decide) (lm (h0.add (j := 0) (by decide))) (fun R => ⟨_, cel_canal tc ad h0 R⟩) rfl rfl rfl (Nat.le_of_ble_eq_true rfl) ⟨Nat.le_of_ble_eq_true rfl, Nat.le_of_ble_eq_true rfl⟩ ⟨Nat.zero_le _, Nat.zero_le _⟩ dX8_execute_65 (fun M12 h => ?_)
    refine ra_goto (tgt := 168) E dX8_execute_68 (by decide) ?_
    exact ra_vret E hr dX8_execute_168 h
  by_cases q3_1 : ((M a1 0) + 1) = 2
  · replace h := h.2.1 q3_1
    refine ra_tableIn (tgt := 71) (off := 60) E dX8_execute_11 (by rw [q3_1]; decide) (by rw [q3_1]; decide) (by rw [q3_1]; decide) (by decide) ?_
    refine ra_aload_n E dX8_execute_71 rfl 0 rfl ?_
    refine ra_aload_n E dX8_execute_72 rfl 1 rfl ?_
    refine gf_X4_1 E h1 fl_X8_99 dX8_execute_73 ?_
    refine ra_aload_n E dX8_execute_76 rfl 1 rfl ?_
    refine gf_X4_2 E h1 fl_X8_102 dX8_execute_77 ?_
    refine ra_aload_n E dX8_execute_80 rfl 1 rfl ?_
    refine gf_X4_3 E h1 fl_X8_105 dX8_execute_81 ?_
    refine ra_aload_n E dX8_execute_84 rfl 1 rfl ?_
    refine gf_X4_4 E h1 fl_X8_108 dX8_execute_85 ?_
    refine ra_callVV (rest := []) E (c_X2_addOrder _ h0 _ _ _ _ _ _ h) (lq_X2 _) cv_X2_addOrder ml_X8_158 (by decide) (lm (h0.add (j := 0) (by decide))) (fun R => ⟨_, cel_canal tc ad h0 R⟩) rfl rfl rfl (Nat.le_of_ble_eq_true rfl) ⟨Nat.le_of_ble_eq_true rfl, Nat.le_of_ble_eq_true rfl⟩ ⟨Nat.zero_le _, Nat.zero_le _⟩ dX8_execute_88 (fun M13 h => ?_)
    refine ra_goto (tgt := 168) E dX8_execute_91 (by decide) ?_
    exact ra_vret E hr dX8_execute_168 h
  by_cases q3_2 : ((M a1 0) + 1) = 3
  · replace h := h.2.2.1 q3_2
    refine ra_tableIn (tgt := 94) (off := 83) E dX8_execute_11 (by rw [q3_2]; decide) (by rw [q3_2]; decide) (by rw [q3_2]; decide) (by decide) ?_
    refine ra_aload_n E dX8_execute_94 rfl 0 rfl ?_
    refine ra_aload_n E dX8_execute_95 rfl 1 rfl ?_
    refine gf_X4_1 E h1 fl_X8_99 dX8_execute_96 ?_
    refine ra_aload_n E dX8_execute_99 rfl 1 rfl ?_
    refine gf_X4_2 E h1 fl_X8_102 dX8_execute_100 ?_
    refine ra_callVV (rest := []) E (c_X2_give _ h0 _ _ _ _ h) (lq_X2 _) cv_X2_give ml_X8_162 (by decide) (lm (h0.add (j := 0) (by decide))) (fun R => ⟨_, cel_canal tc ad h0 R⟩) rfl rfl rfl (Nat.le_of_ble_eq_true rfl) ⟨Nat.le_of_ble_eq_true rfl, Nat.le_of_ble_eq_true rfl⟩ ⟨Nat.zero_le _, Nat.zero_le _⟩ dX8_execute_103 (fun M14 h => ?_)
    refine ra_goto (tgt := 168) E dX8_execute_106 (by decide) ?_
    exact ra_vret E hr dX8_execute_168 h
  by_cases q3_3 : ((M a1 0) + 1) = 4
  · replace h := h.2.2.2.1 q3_3
    refine ra_tableIn (tgt := 109) (off := 98) E dX8_execute_11 (by rw [q3_3]; decide) (by rw [q3_3]; decide) (by rw [q3_3]; decide) (by decide) ?_
    refine ra_aload_n E dX8_execute_109 rfl 0 rfl ?_
    refine ra_aload_n E dX8_execute_110 rfl 1 rfl ?_
    refine gf_X4_1 E h1 fl_X8_99 dX8_execute_111 ?_
    refine ra_callVV (rest := []) E (c_X2_reopen _ h0 _ _ _ h) (lq_X2 _) cv_X2_reopen ml_X8_165 (by decide) (lm (h0.add (j := 0) (by decide))) (fun R => ⟨_, cel_canal tc ad h0 R⟩) rfl rfl rfl (Nat.le_of_ble_eq_true rfl) ⟨Nat.le_of_ble_eq_true rfl, Nat.le_of_ble_eq_true rfl⟩ ⟨Nat.zero_le _, Nat.zero_le _⟩ dX8_execute_114 (fun M15 h => ?_)
    refine ra_goto (tgt := 168) E dX8_execute_117 (by decide) ?_
    exact ra_vret E hr dX8_execute_168 h
  by_cases q3_4 : ((M a1 0) + 1) = 5
  · replace h := h.2.2.2.2.1 q3_4
    refine ra_tableIn (tgt := 120) (off := 109) E dX8_execute_11 (by rw [q3_4]; decide) (by rw [q3_4]; decide) (by rw [q3_4]; decide) (by decide) ?_
    refine ra_aload_n E dX8_execute_120 rfl 0 rfl ?_
    refine ra_aload_n E dX8_execute_121 rfl 1 rfl ?_
    refine gf_X4_1 E h1 fl_X8_99 dX8_execute_122 ?_
    refine ra_aload_n E dX8_execute_125 rfl 1 rfl ?_
    refine gf_X4_2 E h1 fl_X8_102 dX8_execute_126 ?_
    refine ra_callVV (rest := []) E (c_X2_loadFlour _ h0 _ _ _ _ h) (lq_X2 _) cv_X2_loadFlour ml_X8_168 (by decide) (lm (h0.add (j := 0) (by decide))) (fun R => ⟨_, cel_canal tc ad h0 R⟩) rfl rfl rfl (Nat.le_of_ble_eq_true rfl) ⟨Nat.le_of_ble_eq_true rfl, Nat.le_of_ble_eq_true rfl⟩ ⟨Nat.zero_le _, Nat.zero_le _⟩ dX8_execute_129 (fun M16 h => ?_)
    refine ra_goto (tgt := 168) E dX8_execute_132 (by decide) ?_
    exact ra_vret E hr dX8_execute_168 h
  by_cases q3_5 : ((M a1 0) + 1) = 6
  · replace h := h.2.2.2.2.2.1 q3_5
    refine ra_tableIn (tgt := 135) (off := 124) E dX8_execute_11 (by rw [q3_5]; decide) (by rw [q3_5]; decide) (by rw [q3_5]; decide) (by decide) ?_
    refine ra_aload_n E dX8_execute_135 rfl 0 rfl ?_
    refine ra_aload_n E dX8_execute_136 rfl 1 rfl ?_
    refine gf_X4_1 E h1 fl_X8_99 dX8_execute_137 ?_
    refine ra_callVV (rest := []) E (c_X2_gather _ h0 _ _ _ h) (lq_X2 _) cv_X2_gather ml_X8_171 (by decide) (lm (h0.add (j := 0) (by decide))) (fun R => ⟨_, cel_canal tc ad h0 R⟩) rfl rfl rfl (Nat.le_of_ble_eq_true rfl) ⟨Nat.le_of_ble_eq_true rfl, Nat.le_of_ble_eq_true rfl⟩ ⟨Nat.zero_le _, Nat.zero_le _⟩ dX8_execute_140 (fun M17 h => ?_)
    refine ra_goto (tgt := 168) E dX8_execute_143 (by decide) ?_
    exact ra_vret E hr dX8_execute_168 h
  by_cases q3_6 : ((M a1 0) + 1) = 7
  · replace h := h.2.2.2.2.2.2.1 q3_6
    refine ra_tableIn (tgt := 146) (off := 135) E dX8_execute_11 (by rw [q3_6]; decide) (by rw [q3_6]; decide) (by rw [q3_6]; decide) (by decide) ?_
    refine ra_aload_n E dX8_execute_146 rfl 0 rfl ?_
    refine ra_aload_n E dX8_execute_147 rfl 1 rfl ?_
    refine gf_X4_1 E h1 fl_X8_99 dX8_execute_148 ?_
    refine ra_callVV (rest := []) E (c_X2_clean _ h0 _ _ _ h) (lq_X2 _) cv_X2_clean ml_X8_174 (by decide) (lm (h0.add (j := 0) (by decide))) (fun R => ⟨_, cel_canal tc ad h0 R⟩) rfl rfl rfl (Nat.le_of_ble_eq_true rfl) ⟨Nat.le_of_ble_eq_true rfl, Nat.le_of_ble_eq_true rfl⟩ ⟨Nat.zero_le _, Nat.zero_le _⟩ dX8_execute_151 (fun M18 h => ?_)
    refine ra_goto (tgt := 168) E dX8_execute_154 (by decide) ?_
    exact ra_vret E hr dX8_execute_168 h
  by_cases q3_7 : ((M a1 0) + 1) = 8
  · replace h := h.2.2.2.2.2.2.2.1 q3_7
    refine ra_tableIn (tgt := 157) (off := 146) E dX8_execute_11 (by rw [q3_7]; decide) (by rw [q3_7]; decide) (by rw [q3_7]; decide) (by decide) ?_
    refine ra_aload_n E dX8_execute_157 rfl 0 rfl ?_
    refine ra_aload_n E dX8_execute_158 rfl 1 rfl ?_
    refine gf_X4_1 E h1 fl_X8_99 dX8_execute_159 ?_
    refine ra_callVV (rest := []) E (c_X2_passAtMost _ h0 _ _ _ h) (lq_X2 _) cv_X2_passAtMost ml_X8_177 (by decide) (lm (h0.add (j := 0) (by decide))) (fun R => ⟨_, cel_canal tc ad h0 R⟩) rfl rfl rfl (Nat.le_of_ble_eq_true rfl) ⟨Nat.le_of_ble_eq_true rfl, Nat.le_of_ble_eq_true rfl⟩ ⟨Nat.zero_le _, Nat.zero_le _⟩ dX8_execute_162 (fun M19 h => ?_)
    refine ra_goto (tgt := 168) E dX8_execute_165 (by decide) ?_
    exact ra_vret E hr dX8_execute_168 h
  replace h := h.2.2.2.2.2.2.2.2 q3_0 q3_1 q3_2 q3_3 q3_4 q3_5 q3_6 q3_7
  refine ra_tableOut (tgt := 168) E dX8_execute_11 (by have := lk_ne q3_0 (by decide : (1 : Int32).toInt = 1); have := lk_ne q3_1 (by decide : (2 : Int32).toInt = 2); have := lk_ne q3_2 (by decide : (3 : Int32).toInt = 3); have := lk_ne q3_3 (by decide : (4 : Int32).toInt = 4); have := lk_ne q3_4 (by decide : (5 : Int32).toInt = 5); have := lk_ne q3_5 (by decide : (6 : Int32).toInt = 6); have := lk_ne q3_6 (by decide : (7 : Int32).toInt = 7); have := lk_ne q3_7 (by decide : (8 : Int32).toInt = 8); omega) (by decide) ?_
  exact ra_vret E hr dX8_execute_168 h
def f_X10_appendSigns_L2 (a1 : Nat) (K : TM → Prop) : Nat → Int32 → TM → Prop
  | 0, _, _ => False
  | n + 1, x2, M => f_J0_length_8abf5 a1 M (fun r2 M1 => ((r2 ≤ x2 → K M1) ∧ (¬ r2 ≤ x2 → f_J0_charAt_5068e a1 x2 M1 (fun r5 M4 => f_X10_appendByte r5 M4 (fun M7 => f_X10_appendSigns_L2 a1 K n (x2 + 1) M7)))))
set_option maxRecDepth 100000 in
set_option maxHeartbeats 4000000 in
theorem l_X10_appendSigns_L2 {p : Program} {l : Launch} {e : Env} {s : State} {m : MethodId} {args : Array Value} {below : List Frame} {meth : Method} {c : Code} {D : va_G} {tc : Nat → ClassId} {ad : Nat → Nat} (a1 : Nat) (h1 : a1 < nS) {K : TM → Prop} (E : Ev p s m args meth c D tc ad RX10 cX10_appendSigns 3) (hr : meth.sig.returnType = none) : ∀ (n : Nat) (x2 : Int32) (M : TM) , f_X10_appendSigns_L2 a1 K n x2 M → Wa p l e (rmD 4) s m args below meth c 0 0 (MQ below (va_Qv K (EndW D tc ad) (A0 ad s.heap.size)) args s 0 0 (A0 ad s.heap.size)) D tc ad 3 M 2 [(0, .ref (ad 1)), (1, .ref (ad (2200 + a1))), (2, .int x2)] [] := by
  intro n
  induction n with
  | zero => intro x2 M  h; exact h.elim
  | succ n ih =>
    intro x2 M  h
    unfold f_X10_appendSigns_L2 at h
    refine ra_iload_n E dX10_appendSigns_2 rfl 2 rfl ?_
    refine ra_aload_n E dX10_appendSigns_3 rfl 1 rfl ?_
    refine ra_callIR (rest := [_]) E (c_J0_length_8abf5 _ h1 _ _ h) (lq_J0 _) cv_J0_length_8abf5 ml_X10_41 (by decide) (rv_str E h1) rfl rfl (Nat.le_of_ble_eq_true rfl) ⟨Nat.le_of_ble_eq_true rfl, Nat.le_of_ble_eq_true rfl⟩ ⟨Nat.zero_le _, Nat.zero_le _⟩ dX10_appendSigns_4 (fun r2 M1 h => ?_)
    refine ra_icmp_ge (tgt := 25) E dX10_appendSigns_7 (by decide) (fun q3 => ?_) (fun q3 => ?_)
    · replace h := h.1 q3
      exact ra_vret E hr dX10_appendSigns_25 h
    · replace h := h.2 q3
      refine ra_aload_n E dX10_appendSigns_10 rfl 0 rfl ?_
      refine ra_aload_n E dX10_appendSigns_11 rfl 1 rfl ?_
      refine ra_iload_n E dX10_appendSigns_12 rfl 2 rfl ?_
      refine ra_callIR (rest := [_]) E (c_J0_charAt_5068e _ h1 _ _ _ h) (lq_J0 _) cv_J0_charAt_5068e ml_X10_46 (by decide) (rv_str E h1) rfl rfl (Nat.le_of_ble_eq_true rfl) ⟨Nat.le_of_ble_eq_true rfl, Nat.le_of_ble_eq_true rfl⟩ ⟨Nat.zero_le _, Nat.zero_le _⟩ dX10_appendSigns_13 (fun r5 M4 h => ?_)
      obtain ⟨b6, h⟩ := h
      refine ra_callVV (rest := []) E (c_X10_appendByte _ _ _ h) (lq_X10 _) cv_X10_appendByte ml_X10_37 (by decide) (lm (by decide)) (fun R => ⟨_, cel_1 tc ad R⟩) rfl rfl rfl (Nat.le_of_ble_eq_true rfl) ⟨Nat.le_of_ble_eq_true rfl, Nat.le_of_ble_eq_true rfl⟩ ⟨Nat.zero_le _, Nat.zero_le _⟩ dX10_appendSigns_16 (fun M7 h => ?_)
      refine ra_iinc1 (L' := [(2, _), (0, _), (1, _)]) E dX10_appendSigns_19 2 rfl (by decide) rfl ?_
      refine ra_goto (tgt := 2) E dX10_appendSigns_22 (by decide) ?_
      exact ra_sub (L' := [(0, _), (1, _), (2, _)]) [1, 2, 0] rfl (ih _ _ h)
def f_X10_appendSigns (a1 : Nat) (M : TM) (K : TM → Prop) : Prop := ∃ n, f_X10_appendSigns_L2 a1 K n (0 : Int32) M
set_option maxRecDepth 100000 in
set_option maxHeartbeats 4000000 in
theorem c_X10_appendSigns {ad : Nat → Nat} (a1 : Nat) (h1 : a1 < nS) (M : TM) (K : TM → Prop) (h : f_X10_appendSigns a1 M K) : MV yX10_appendSigns cX10_appendSigns 3 4 ad [.ref (ad 1), .ref (ad (2200 + a1))] M K := by
  refine MV_of RX10 rfl (by decide +kernel) (Nat.le_of_ble_eq_true rfl) (fun p l e s m below meth c D tc E hr => ?_)
  unfold f_X10_appendSigns at h
  refine ra_iconst E dX10_appendSigns_0 ki_0 ?_
  refine ra_istore_n (L' := [(2, _), (0, _), (1, _)]) E dX10_appendSigns_1 rfl (by decide) rfl ?_
  obtain ⟨n8, h⟩ := h
  exact ra_sub (L' := [(0, _), (1, _), (2, _)]) [1, 2, 0] rfl (l_X10_appendSigns_L2 a1 h1 E hr n8 _ _ h)
def f_X10_isAtWord_L28 (a1 : Nat) (K : Int32 → TM → Prop) : Nat → Int32 → TM → Prop
  | 0, _, _ => False
  | n + 1, x2, M => f_J0_length_8abf5 a1 M (fun r9 M8 => ((r9 ≤ x2 → K (1 : Int32) M8) ∧ (¬ r9 ≤ x2 → (((500 : Int32) ≤ ((M8 1 4) + x2) → K (1 : Int32) M8) ∧ (¬ (500 : Int32) ≤ ((M8 1 4) + x2) → vp_in ((M8 1 4) + x2) 500 ∧ f_J0_charAt_5068e a1 x2 M8 (fun r14 M13 => (((M8 2 ((M8 1 4) + x2).toNatClampNeg) = r14 → f_X10_isAtWord_L28 a1 K n (x2 + 1) M13) ∧ (¬ (M8 2 ((M8 1 4) + x2).toNatClampNeg) = r14 → K (0 : Int32) M13))))))))
set_option maxRecDepth 100000 in
set_option maxHeartbeats 4000000 in
theorem l_X10_isAtWord_L28 {p : Program} {l : Launch} {e : Env} {s : State} {m : MethodId} {args : Array Value} {below : List Frame} {meth : Method} {c : Code} {D : va_G} {tc : Nat → ClassId} {ad : Nat → Nat} (a1 : Nat) (h1 : a1 < nS) {K : Int32 → TM → Prop} (E : Ev p s m args meth c D tc ad RX10 cX10_isAtWord 3) (hr : meth.sig.returnType = (some .boolean)) : ∀ (n : Nat) (x2 : Int32) (M : TM) , f_X10_isAtWord_L28 a1 K n x2 M → Wa p l e (rmD 4) s m args below meth c 0 0 (MQ below (va_Qi (fun r M' => (r = 0 ∨ r = 1) ∧ K r M') (EndW D tc ad) (A0 ad s.heap.size)) args s 0 0 (A0 ad s.heap.size)) D tc ad 3 M 28 [(0, .ref (ad 1)), (1, .ref (ad (2200 + a1))), (2, .int x2)] [] := by
  intro n
  induction n with
  | zero => intro x2 M  h; exact h.elim
  | succ n ih =>
    intro x2 M  h
    unfold f_X10_isAtWord_L28 at h
    refine ra_iload_n E dX10_isAtWord_28 rfl 2 rfl ?_
    refine ra_aload_n E dX10_isAtWord_29 rfl 1 rfl ?_
    refine ra_callIR (rest := [_]) E (c_J0_length_8abf5 _ h1 _ _ h) (lq_J0 _) cv_J0_length_8abf5 ml_X10_41 (by decide) (rv_str E h1) rfl rfl (Nat.le_of_ble_eq_true rfl) ⟨Nat.le_of_ble_eq_true rfl, Nat.le_of_ble_eq_true rfl⟩ ⟨Nat.zero_le _, Nat.zero_le _⟩ dX10_isAtWord_30 (fun r9 M8 h => ?_)
    refine ra_icmp_ge (tgt := 77) E dX10_isAtWord_33 (by decide) (fun q10 => ?_) (fun q10 => ?_)
    · replace h := h.1 q10
      refine ra_iconst E dX10_isAtWord_77 ki_1 ?_
      exact ra_zret E hr rfl dX10_isAtWord_78 ⟨Or.inr rfl, h⟩
    · replace h := h.2 q10
      refine ra_aload_n E dX10_isAtWord_36 rfl 0 rfl ?_
      refine gf_X10_4 E fl_X10_25 dX10_isAtWord_37 ?_
      refine ra_iload_n E dX10_isAtWord_40 rfl 2 rfl ?_
      refine ra_iadd E dX10_isAtWord_41 ?_
      refine ra_aload_n E dX10_isAtWord_42 rfl 0 rfl ?_
      refine gf_X10_0 E fl_X10_9 dX10_isAtWord_43 ?_
      refine ra_alen (n := 500) (v := 500) E (lm (by decide)) (fun R => ⟨_, (cel_2 tc ad) R, rfl⟩) rfl (by decide) dX10_isAtWord_46 ?_
      refine ra_icmp_ge (tgt := 77) E dX10_isAtWord_47 (by decide) (fun q11 => ?_) (fun q11 => ?_)
      · replace h := h.1 q11
        refine ra_iconst E dX10_isAtWord_77 ki_1 ?_
        exact ra_zret E hr rfl dX10_isAtWord_78 ⟨Or.inr rfl, h⟩
      · replace h := h.2 q11
        refine ra_aload_n E dX10_isAtWord_50 rfl 0 rfl ?_
        refine gf_X10_0 E fl_X10_9 dX10_isAtWord_51 ?_
        refine ra_aload_n E dX10_isAtWord_54 rfl 0 rfl ?_
        refine gf_X10_4 E fl_X10_25 dX10_isAtWord_55 ?_
        refine ra_iload_n E dX10_isAtWord_58 rfl 2 rfl ?_
        refine ra_iadd E dX10_isAtWord_59 ?_
        obtain ⟨g12, h⟩ := h
        refine ra_bald E (lm (by decide)) (cel_2 tc ad) g12 dX10_isAtWord_60 ?_
        refine ra_aload_n E dX10_isAtWord_61 rfl 1 rfl ?_
        refine ra_iload_n E dX10_isAtWord_62 rfl 2 rfl ?_
        refine ra_callIR (rest := [_]) E (c_J0_charAt_5068e _ h1 _ _ _ h) (lq_J0 _) cv_J0_charAt_5068e ml_X10_46 (by decide) (rv_str E h1) rfl rfl (Nat.le_of_ble_eq_true rfl) ⟨Nat.le_of_ble_eq_true rfl, Nat.le_of_ble_eq_true rfl⟩ ⟨Nat.zero_le _, Nat.zero_le _⟩ dX10_isAtWord_63 (fun r14 M13 h => ?_)
        obtain ⟨b15, h⟩ := h
        refine ra_icmp_eq (tgt := 71) E dX10_isAtWord_66 (by decide) (fun q16 => ?_) (fun q16 => ?_)
        · replace h := h.1 q16
          refine ra_iinc1 (L' := [(2, _), (0, _), (1, _)]) E dX10_isAtWord_71 2 rfl (by decide) rfl ?_
          refine ra_goto (tgt := 28) E dX10_isAtWord_74 (by decide) ?_
          exact ra_sub (L' := [(0, _), (1, _), (2, _)]) [1, 2, 0] rfl (ih _ _ h)
        · replace h := h.2 q16
          refine ra_iconst E dX10_isAtWord_69 ki_0 ?_
          exact ra_zret E hr rfl dX10_isAtWord_70 ⟨Or.inl rfl, h⟩
def f_X10_isAtWord (a1 : Nat) (M : TM) (K : Int32 → TM → Prop) : Prop := f_X10_isAt (3 : Int32) M (fun r2 M1 => ((r2 = 0 → K (0 : Int32) M1) ∧ (¬ r2 = 0 → f_J0_length_8abf5 a1 M1 (fun r6 M5 => ((((M1 1 5) - (M1 1 4)) = r6 → ∃ n, f_X10_isAtWord_L28 a1 K n (0 : Int32) M5) ∧ (¬ ((M1 1 5) - (M1 1 4)) = r6 → K (0 : Int32) M5))))))
set_option maxRecDepth 100000 in
set_option maxHeartbeats 4000000 in
theorem c_X10_isAtWord {ad : Nat → Nat} (a1 : Nat) (h1 : a1 < nS) (M : TM) (K : Int32 → TM → Prop) (h : f_X10_isAtWord a1 M K) : MI yX10_isAtWord cX10_isAtWord 3 (some .boolean) 4 ad [.ref (ad 1), .ref (ad (2200 + a1))] M (fun r M' => (r = 0 ∨ r = 1) ∧ K r M') := by
  refine MI_of RX10 rfl (by decide +kernel) (Nat.le_of_ble_eq_true rfl) (fun p l e s m below meth c D tc E hr => ?_)
  unfold f_X10_isAtWord at h
  refine ra_aload_n E dX10_isAtWord_0 rfl 0 rfl ?_
  refine ra_iconst E dX10_isAtWord_1 ki_3 ?_
  refine ra_callIV (rest := []) E (c_X10_isAt _ _ _ h) (lq_X10 _) cv_X10_isAt ml_X10_67 (by decide) (lm (by decide)) (fun R => ⟨_, cel_1 tc ad R⟩) rfl rfl rfl (Nat.le_of_ble_eq_true rfl) ⟨Nat.le_of_ble_eq_true rfl, Nat.le_of_ble_eq_true rfl⟩ ⟨Nat.zero_le _, Nat.zero_le _⟩ dX10_isAtWord_2 (fun r2 M1 h => ?_)
  obtain ⟨b3, h⟩ := h
  refine ra_if_eq (tgt := 24) E dX10_isAtWord_5 (by decide) (fun q4 => ?_) (fun q4 => ?_)
  · replace h := h.1 q4
    refine ra_iconst E dX10_isAtWord_24 ki_0 ?_
    exact ra_zret E hr rfl dX10_isAtWord_25 ⟨Or.inl rfl, h⟩
  · replace h := h.2 q4
    refine ra_aload_n E dX10_isAtWord_8 rfl 0 rfl ?_
    refine gf_X10_5 E fl_X10_28 dX10_isAtWord_9 ?_
    refine ra_aload_n E dX10_isAtWord_12 rfl 0 rfl ?_
    refine gf_X10_4 E fl_X10_25 dX10_isAtWord_13 ?_
    refine ra_isub E dX10_isAtWord_16 ?_
    refine ra_aload_n E dX10_isAtWord_17 rfl 1 rfl ?_
    refine ra_callIR (rest := [_]) E (c_J0_length_8abf5 _ h1 _ _ h) (lq_J0 _) cv_J0_length_8abf5 ml_X10_41 (by decide) (rv_str E h1) rfl rfl (Nat.le_of_ble_eq_true rfl) ⟨Nat.le_of_ble_eq_true rfl, Nat.le_of_ble_eq_true rfl⟩ ⟨Nat.zero_le _, Nat.zero_le _⟩ dX10_isAtWord_18 (fun r6 M5 h => ?_)
    refine ra_icmp_eq (tgt := 26) E dX10_isAtWord_21 (by decide) (fun q7 => ?_) (fun q7 => ?_)
    · replace h := h.1 q7
      refine ra_iconst E dX10_isAtWord_26 ki_0 ?_
      refine ra_istore_n (L' := [(2, _), (0, _), (1, _)]) E dX10_isAtWord_27 rfl (by decide) rfl ?_
      obtain ⟨n17, h⟩ := h
      exact ra_sub (L' := [(0, _), (1, _), (2, _)]) [1, 2, 0] rfl (l_X10_isAtWord_L28 a1 h1 E hr n17 _ _ h)
    · replace h := h.2 q7
      refine ra_iconst E dX10_isAtWord_24 ki_0 ?_
      exact ra_zret E hr rfl dX10_isAtWord_25 ⟨Or.inl rfl, h⟩
def f_X10_readWord (a1 : Nat) (M : TM) (K : TM → Prop) : Prop := f_X10_isAtWord a1 M (fun r2 M1 => ((r2 = 0 → f_X10_fail (1 : Int32) M1 (fun M5 => K M5)) ∧ (¬ r2 = 0 → f_X10_advance M1 (fun M6 => K M6))))
set_option maxRecDepth 100000 in
set_option maxHeartbeats 4000000 in
theorem c_X10_readWord {ad : Nat → Nat} (a1 : Nat) (h1 : a1 < nS) (M : TM) (K : TM → Prop) (h : f_X10_readWord a1 M K) : MV yX10_readWord cX10_readWord 2 5 ad [.ref (ad 1), .ref (ad (2200 + a1))] M K := by
  refine MV_of RX10 rfl (by decide +kernel) (Nat.le_of_ble_eq_true rfl) (fun p l e s m below meth c D tc E hr => ?_)
  unfold f_X10_readWord at h
  refine ra_aload_n E dX10_readWord_0 rfl 0 rfl ?_
  refine ra_aload_n E dX10_readWord_1 rfl 1 rfl ?_
  refine ra_callIV (rest := []) E (c_X10_isAtWord _ h1 _ _ h) (lq_X10 _) cv_X10_isAtWord ml_X10_71 (by decide) (lm (by decide)) (fun R => ⟨_, cel_1 tc ad R⟩) rfl rfl rfl (Nat.le_of_ble_eq_true rfl) ⟨Nat.le_of_ble_eq_true rfl, Nat.le_of_ble_eq_true rfl⟩ ⟨Nat.zero_le _, Nat.zero_le _⟩ dX10_readWord_2 (fun r2 M1 h => ?_)
  obtain ⟨b3, h⟩ := h
  refine ra_if_eq (tgt := 15) E dX10_readWord_5 (by decide) (fun q4 => ?_) (fun q4 => ?_)
  · replace h := h.1 q4
    refine ra_aload_n E dX10_readWord_15 rfl 0 rfl ?_
    refine ra_iconst E dX10_readWord_16 ki_1 ?_
    refine ra_callVV (rest := []) E (c_X10_fail _ _ _ h) (lq_X10 _) cv_X10_fail ml_X10_75 (by decide) (lm (by decide)) (fun R => ⟨_, cel_1 tc ad R⟩) rfl rfl rfl (Nat.le_of_ble_eq_true rfl) ⟨Nat.le_of_ble_eq_true rfl, Nat.le_of_ble_eq_true rfl⟩ ⟨Nat.zero_le _, Nat.zero_le _⟩ dX10_readWord_17 (fun M5 h => ?_)
    exact ra_vret E hr dX10_readWord_20 h
  · replace h := h.2 q4
    refine ra_aload_n E dX10_readWord_8 rfl 0 rfl ?_
    refine ra_callVV (rest := []) E (c_X10_advance _ _ h) (lq_X10 _) cv_X10_advance ml_X10_56 (by decide) (lm (by decide)) (fun R => ⟨_, cel_1 tc ad R⟩) rfl rfl rfl (Nat.le_of_ble_eq_true rfl) ⟨Nat.le_of_ble_eq_true rfl, Nat.le_of_ble_eq_true rfl⟩ ⟨Nat.zero_le _, Nat.zero_le _⟩ dX10_readWord_9 (fun M6 h => ?_)
    refine ra_goto (tgt := 20) E dX10_readWord_12 (by decide) ?_
    exact ra_vret E hr dX10_readWord_20 h
def f_X13_runScript_L46 (p1 : Int32) (K : Int32 → TM → Prop)  (M : TM) : Prop := f_X13_isFaulty M (fun r12 M11 => ((r12 = 0 → f_X13_keep M11 (fun M15 => f_X13_record M15 (fun M16 => ∀ M17, M17 = u2 M16 699 27 (0 : Int32) → f_X13_areDoneC (0 : Int32) (M17 699 26) M17 (fun r19 M18 => K (M18 699 27) M18)))) ∧ (¬ r12 = 0 → K (-1 : Int32) M11)))
set_option maxRecDepth 100000 in
set_option maxHeartbeats 4000000 in
theorem l_X13_runScript_L46 {p : Program} {l : Launch} {e : Env} {s : State} {m : MethodId} {args : Array Value} {below : List Frame} {meth : Method} {c : Code} {D : va_G} {tc : Nat → ClassId} {ad : Nat → Nat} (p1 : Int32) {K : Int32 → TM → Prop} (E : Ev p s m args meth c D tc ad RX13 cX13_runScript 3) (hr : meth.sig.returnType = (some .int)) : ∀  (M : TM) , f_X13_runScript_L46 p1 K  M → Wa p l e (rmD 16) s m args below meth c 0 0 (MQ below (va_Qi K (EndW D tc ad) (A0 ad s.heap.size)) args s 0 0 (A0 ad s.heap.size)) D tc ad 3 M 46 [(0, .ref (ad 699))] [] := by
  intro  M  h
  unfold f_X13_runScript_L46 at h
  refine ra_aload_n E dX13_runScript_46 rfl 0 rfl ?_
  refine ra_callIV (rest := []) E (c_X13_isFaulty _ _ h) lq_13 cv_X13_isFaulty ml_X13_401 (by decide) (lmM (by decide)) (fun R => ⟨_, cel_699 tc ad R⟩) rfl rfl rfl (Nat.le_of_ble_eq_true rfl) ⟨Nat.le_of_ble_eq_true rfl, Nat.le_of_ble_eq_true rfl⟩ ⟨Nat.zero_le _, Nat.zero_le _⟩ dX13_runScript_47 (fun r12 M11 h => ?_)
  obtain ⟨b13, h⟩ := h
  refine ra_if_eq (tgt := 55) E dX13_runScript_50 (by decide) (fun q14 => ?_) (fun q14 => ?_)
  · replace h := h.1 q14
    refine ra_aload_n E dX13_runScript_55 rfl 0 rfl ?_
    refine ra_callVV (rest := []) E (c_X13_keep _ _ h) lq_13 cv_X13_keep ml_X13_254 (by decide) (lmM (by decide)) (fun R => ⟨_, cel_699 tc ad R⟩) rfl rfl rfl (Nat.le_of_ble_eq_true rfl) ⟨Nat.le_of_ble_eq_true rfl, Nat.le_of_ble_eq_true rfl⟩ ⟨Nat.zero_le _, Nat.zero_le _⟩ dX13_runScript_56 (fun M15 h => ?_)
    refine ra_aload_n E dX13_runScript_59 rfl 0 rfl ?_
    refine ra_callVV (rest := []) E (c_X13_record _ _ h) lq_13 cv_X13_record ml_X13_251 (by decide) (lmM (by decide)) (fun R => ⟨_, cel_699 tc ad R⟩) rfl rfl rfl (Nat.le_of_ble_eq_true rfl) ⟨Nat.le_of_ble_eq_true rfl, Nat.le_of_ble_eq_true rfl⟩ ⟨Nat.zero_le _, Nat.zero_le _⟩ dX13_runScript_60 (fun M16 h => ?_)
    refine ra_aload_n E dX13_runScript_63 rfl 0 rfl ?_
    refine ra_iconst E dX13_runScript_64 ki_0 ?_
    refine pf_X13_27 E lm13 fl_X13_432 dX13_runScript_65 ?_
    replace h := h _ rfl
    refine ra_aload_n E dX13_runScript_68 rfl 0 rfl ?_
    refine ra_iconst E dX13_runScript_69 ki_0 ?_
    refine ra_aload_n E dX13_runScript_70 rfl 0 rfl ?_
    refine gf_X13_26 E lm13 fl_X13_408 dX13_runScript_71 ?_
    refine ra_callIV (rest := []) E (c_X13_areDoneC _ _ _ _ h) lq_13 cv_X13_areDone ml_X13_423 (by decide) (lmM (by decide)) (fun R => ⟨_, cel_699 tc ad R⟩) rfl rfl rfl (Nat.le_of_ble_eq_true rfl) ⟨Nat.le_of_ble_eq_true rfl, Nat.le_of_ble_eq_true rfl⟩ ⟨Nat.zero_le _, Nat.zero_le _⟩ dX13_runScript_74 (fun r19 M18 h => ?_)
    obtain ⟨b20, h⟩ := h
    refine ra_istore_n (L' := [(2, _), (0, _)]) E dX13_runScript_77 rfl (by decide) rfl ?_
    refine ra_aload_n E dX13_runScript_78 rfl 1 rfl ?_
    refine gf_X13_27 E lm13 fl_X13_432 dX13_runScript_79 ?_
    exact ra_iret E hr dX13_runScript_82 h
  · replace h := h.2 q14
    refine ra_iconst E dX13_runScript_53 ki_m1 ?_
    exact ra_iret E hr dX13_runScript_54 h
def f_X13_runScript_L24 (p1 : Int32) (K : Int32 → TM → Prop) : Nat → TM → Prop
  | 0, _ => False
  | n + 1, M => ((¬ (M 699 20) = 0 → f_X13_runScript_L46 p1 K M) ∧ ((M 699 20) = 0 → (((M 699 19) = 0 → f_X13_runScript_L46 p1 K M) ∧ (¬ (M 699 19) = 0 → f_X13_readCommandC (0 : Int32) M (fun M22 => f_X13_runScript_L24 p1 K n M22)))))
set_option maxRecDepth 100000 in
set_option maxHeartbeats 4000000 in
theorem l_X13_runScript_L24 {p : Program} {l : Launch} {e : Env} {s : State} {m : MethodId} {args : Array Value} {below : List Frame} {meth : Method} {c : Code} {D : va_G} {tc : Nat → ClassId} {ad : Nat → Nat} (p1 : Int32) {K : Int32 → TM → Prop} (E : Ev p s m args meth c D tc ad RX13 cX13_runScript 3) (hr : meth.sig.returnType = (some .int)) : ∀ (n : Nat)  (M : TM) , f_X13_runScript_L24 p1 K n  M → Wa p l e (rmD 16) s m args below meth c 0 0 (MQ below (va_Qi K (EndW D tc ad) (A0 ad s.heap.size)) args s 0 0 (A0 ad s.heap.size)) D tc ad 3 M 24 [(0, .ref (ad 699))] [] := by
  intro n
  induction n with
  | zero => intro  M  h; exact h.elim
  | succ n ih =>
    intro  M  h
    unfold f_X13_runScript_L24 at h
    refine ra_aload_n E dX13_runScript_24 rfl 0 rfl ?_
    refine gf_X13_20 E lm13 fl_X13_323 dX13_runScript_25 ?_
    refine ra_if_ne (tgt := 46) E dX13_runScript_28 (by decide) (fun q10 => ?_) (fun q10 => ?_)
    · replace h := h.1 q10
      exact ra_sub (L' := [(0, _)]) [0] rfl (l_X13_runScript_L46 p1 E hr _ h)
    · replace h := h.2 q10
      refine ra_aload_n E dX13_runScript_31 rfl 0 rfl ?_
      refine gf_X13_19 E lm13 fl_X13_314 dX13_runScript_32 ?_
      refine ra_if_eq (tgt := 46) E dX13_runScript_35 (by decide) (fun q21 => ?_) (fun q21 => ?_)
      · replace h := h.1 q21
        exact ra_sub (L' := [(0, _)]) [0] rfl (l_X13_runScript_L46 p1 E hr _ h)
      · replace h := h.2 q21
        refine ra_aload_n E dX13_runScript_38 rfl 0 rfl ?_
        refine ra_iconst E dX13_runScript_39 ki_0 ?_
        refine ra_callVV (rest := []) E (c_X13_readCommandC _ _ _ h) lq_13 cv_X13_readCommand ml_X13_405 (by decide) (lmM (by decide)) (fun R => ⟨_, cel_699 tc ad R⟩) rfl rfl rfl (Nat.le_of_ble_eq_true rfl) ⟨Nat.le_of_ble_eq_true rfl, Nat.le_of_ble_eq_true rfl⟩ ⟨Nat.zero_le _, Nat.zero_le _⟩ dX13_runScript_40 (fun M22 h => ?_)
        refine ra_goto (tgt := 24) E dX13_runScript_43 (by decide) ?_
        exact ra_sub (L' := [(0, _)]) [0] rfl (ih _ h)
def f_X13_runScript (p1 : Int32) (M : TM) (K : Int32 → TM → Prop) : Prop := f_X13_isLength p1 M (fun r2 M1 => f_X13_lacks r2 M1 (fun r5 M4 => ((r5 = 0 → ∀ M8, M8 = u2 M4 699 26 (0 : Int32) → f_X13_startText p1 M8 (fun M9 => ∃ n, f_X13_runScript_L24 p1 K n M9)) ∧ (¬ r5 = 0 → K (0 : Int32) M4))))
set_option maxRecDepth 100000 in
set_option maxHeartbeats 4000000 in
theorem c_X13_runScript {ad : Nat → Nat} (p1 : Int32) (M : TM) (K : Int32 → TM → Prop) (h : f_X13_runScript p1 M K) : MI yX13_runScript cX13_runScript 3 (some .int) 16 ad [.ref (ad 699), .int p1] M K := by
  refine MI_of RX13 rfl (by decide +kernel) (Nat.le_of_ble_eq_true rfl) (fun p l e s m below meth c D tc E hr => ?_)
  unfold f_X13_runScript at h
  refine ra_aload_n E dX13_runScript_0 rfl 0 rfl ?_
  refine ra_aload_n E dX13_runScript_1 rfl 0 rfl ?_
  refine ra_iload_n E dX13_runScript_2 rfl 1 rfl ?_
  refine ra_callIV (rest := [_]) E (c_X13_isLength _ _ _ h) lq_13 cv_X13_isLength ml_X13_392 (by decide) (lmM (by decide)) (fun R => ⟨_, cel_699 tc ad R⟩) rfl rfl rfl (Nat.le_of_ble_eq_true rfl) ⟨Nat.le_of_ble_eq_true rfl, Nat.le_of_ble_eq_true rfl⟩ ⟨Nat.zero_le _, Nat.zero_le _⟩ dX13_runScript_3 (fun r2 M1 h => ?_)
  obtain ⟨b3, h⟩ := h
  refine ra_callIV (rest := []) E (c_X13_lacks _ _ _ h) lq_13 cv_X13_lacks ml_X13_82 (by decide) (lmM (by decide)) (fun R => ⟨_, cel_699 tc ad R⟩) rfl rfl rfl (Nat.le_of_ble_eq_true rfl) ⟨Nat.le_of_ble_eq_true rfl, Nat.le_of_ble_eq_true rfl⟩ ⟨Nat.zero_le _, Nat.zero_le _⟩ dX13_runScript_6 (fun r5 M4 h => ?_)
  obtain ⟨b6, h⟩ := h
  refine ra_if_eq (tgt := 14) E dX13_runScript_9 (by decide) (fun q7 => ?_) (fun q7 => ?_)
  · replace h := h.1 q7
    refine ra_aload_n E dX13_runScript_14 rfl 0 rfl ?_
    refine ra_iconst E dX13_runScript_15 ki_0 ?_
    refine pf_X13_26 E lm13 fl_X13_408 dX13_runScript_16 ?_
    replace h := h _ rfl
    refine ra_aload_n E dX13_runScript_19 rfl 0 rfl ?_
    refine ra_iload_n E dX13_runScript_20 rfl 1 rfl ?_
    refine ra_callVV (rest := []) E (c_X13_startText _ _ _ h) lq_13 cv_X13_startText ml_X13_395 (by decide) (lmM (by decide)) (fun R => ⟨_, cel_699 tc ad R⟩) rfl rfl rfl (Nat.le_of_ble_eq_true rfl) ⟨Nat.le_of_ble_eq_true rfl, Nat.le_of_ble_eq_true rfl⟩ ⟨Nat.zero_le _, Nat.zero_le _⟩ dX13_runScript_21 (fun M9 h => ?_)
    obtain ⟨n23, h⟩ := h
    exact ra_sub (L' := [(0, _)]) [0] rfl (l_X13_runScript_L24 p1 E hr n23 _ h)
  · replace h := h.2 q7
    refine ra_iconst E dX13_runScript_12 ki_0 ?_
    exact ra_iret E hr dX13_runScript_13 h
def f_X8_executeBlock_L6 (fc : Nat → Int32 → Int32 → TM → (Int32 → TM → Prop) → Prop) (a1 : Nat) (p2 : Int32) (p3 : Int32) (p4 : Int32) (K : Int32 → TM → Prop) : Nat → Int32 → Int32 → Int32 → Int32 → TM → Prop
  | 0, _, _, _, _, _ => False
  | n + 1, x3, x4, x5, x6, M => ((x3 ≤ x6 → K (1 : Int32) M) ∧ (¬ x3 ≤ x6 → (((20 : Int32) ≤ x6 → K (1 : Int32) M) ∧ (¬ (20 : Int32) ≤ x6 → ((x5 ≤ x6 → vp_in x6 20 ∧ vp_in (M (5 + x6.toNatClampNeg) 0) 9 ∧ ((¬ (M (5 + x6.toNatClampNeg) 0) = (8 : Int32) → f_X8_isPossible a1 (5 + x6.toNatClampNeg) M (fun r8 M7 => ((r8 = 0 → K (0 : Int32) M7) ∧ (¬ r8 = 0 → f_X8_execute a1 (5 + x6.toNatClampNeg) M7 (fun M11 => ∀ M12, M12 = u2 M11 3 2 ((M11 3 2) + (1 : Int32)) → f_X8_executeBlock_L6 fc a1 p2 p3 p4 K n x3 x4 (M (5 + x6.toNatClampNeg) 5) (x6 + 1) M12))))) ∧ ((M (5 + x6.toNatClampNeg) 0) = (8 : Int32) → fc a1 x6 (x4 + (1 : Int32)) M (fun r14 M13 => ((¬ r14 = 0 → f_X8_executeBlock_L6 fc a1 p2 p3 p4 K n x3 x4 (M (5 + x6.toNatClampNeg) 5) (x6 + 1) M13) ∧ (r14 = 0 → K (0 : Int32) M13)))))) ∧ (¬ x5 ≤ x6 → f_X8_executeBlock_L6 fc a1 p2 p3 p4 K n x3 x4 x5 (x6 + 1) M))))))
set_option maxRecDepth 100000 in
set_option maxHeartbeats 4000000 in
theorem l_X8_executeBlock_L6 {p : Program} {l : Launch} {e : Env} {s : State} {m : MethodId} {args : Array Value} {below : List Frame} {meth : Method} {c : Code} {D : va_G} {tc : Nat → ClassId} {ad : Nat → Nat} (fc : Nat → Int32 → Int32 → TM → (Int32 → TM → Prop) → Prop) (dd : Nat) (hd : 4 ≤ dd) (hfc : ∀ (a1 : Nat) (h1 : IsCanal a1) (p2 : Int32) (p3 : Int32) (M : TM) (K : Int32 → TM → Prop), fc a1 p2 p3 M K → MI yX8_executeRepeat cX8_executeRepeat 6 (some .boolean) dd ad [.ref (ad 3), .ref (ad a1), .int p2, .int p3] M (fun r M' => (r = 0 ∨ r = 1) ∧ K r M')) (a1 : Nat) (h1 : IsCanal a1) (p2 : Int32) (p3 : Int32) (p4 : Int32) {K : Int32 → TM → Prop} (E : Ev p s m args meth c D tc ad RX8 cX8_executeBlock 8) (hr : meth.sig.returnType = (some .boolean)) : ∀ (n : Nat) (x3 : Int32) (x4 : Int32) (x5 : Int32) (x6 : Int32) (M : TM) , f_X8_executeBlock_L6 fc a1 p2 p3 p4 K n x3 x4 x5 x6 M → Wa p l e (rmD (dd + 1)) s m args below meth c 0 0 (MQ below (va_Qi (fun r M' => (r = 0 ∨ r = 1) ∧ K r M') (EndW D tc ad) (A0 ad s.heap.size)) args s 0 0 (A0 ad s.heap.size)) D tc ad 8 M 6 [(0, .ref (ad 3)), (1, .ref (ad a1)), (3, .int x3), (4, .int x4), (5, .int x5), (6, .int x6)] [] := by
  intro n
  induction n with
  | zero => intro x3 x4 x5 x6 M  h; exact h.elim
  | succ n ih =>
    intro x3 x4 x5 x6 M  h
    unfold f_X8_executeBlock_L6 at h
    refine ra_iload E dX8_executeBlock_6 5 rfl ?_
    refine ra_iload_n E dX8_executeBlock_8 rfl 2 rfl ?_
    refine ra_icmp_ge (tgt := 111) E dX8_executeBlock_9 (by decide) (fun q1 => ?_) (fun q1 => ?_)
    · replace h := h.1 q1
      refine ra_iconst E dX8_executeBlock_111 ki_1 ?_
      exact ra_zret E hr rfl dX8_executeBlock_112 ⟨Or.inr rfl, h⟩
    · replace h := h.2 q1
      refine ra_iload E dX8_executeBlock_12 5 rfl ?_
      refine ra_aload_n E dX8_executeBlock_14 rfl 0 rfl ?_
      refine gf_X8_0 E fl_X8_11 dX8_executeBlock_15 ?_
      refine ra_alen (n := 20) (v := 20) E (lm (by decide)) (fun R => ⟨_, (cel_4 tc ad) R, rfl⟩) rfl (by decide) dX8_executeBlock_18 ?_
      refine ra_icmp_ge (tgt := 111) E dX8_executeBlock_19 (by decide) (fun q2 => ?_) (fun q2 => ?_)
      · replace h := h.1 q2
        refine ra_iconst E dX8_executeBlock_111 ki_1 ?_
        exact ra_zret E hr rfl dX8_executeBlock_112 ⟨Or.inr rfl, h⟩
      · replace h := h.2 q2
        refine ra_iload E dX8_executeBlock_22 5 rfl ?_
        refine ra_iload E dX8_executeBlock_24 4 rfl ?_
        refine ra_icmp_ge (tgt := 32) E dX8_executeBlock_26 (by decide) (fun q3 => ?_) (fun q3 => ?_)
        · replace h := h.1 q3
          refine ra_aload_n E dX8_executeBlock_32 rfl 0 rfl ?_
          refine gf_X8_0 E fl_X8_11 dX8_executeBlock_33 ?_
          refine ra_iload E dX8_executeBlock_36 5 rfl ?_
          obtain ⟨g4, h⟩ := h
          refine ra_aald E (lm (by decide)) (cel_4 tc ad) rfl g4 dX8_executeBlock_38 ?_
          refine ra_astore (L' := [(7, _), (0, _), (1, _), (3, _), (4, _), (5, _), (6, _)]) E dX8_executeBlock_39 (by decide) rfl ?_
          refine ra_aload E dX8_executeBlock_41 0 rfl ?_
          refine gf_X4_5 E (isCmd_of g4) fl_X8_70 dX8_executeBlock_43 ?_
          refine ra_istore (L' := [(5, _), (7, _), (0, _), (1, _), (3, _), (4, _), (6, _)]) E dX8_executeBlock_46 (by decide) rfl ?_
          refine ra_aload E dX8_executeBlock_48 1 rfl ?_
          refine gf_X4_0 E (isCmd_of g4) fl_X8_63 dX8_executeBlock_50 ?_
          refine gs_V (i := 8) E 8 (by decide) rfl (by decide) fl_X8_54 dX8_executeBlock_53 ?_
          obtain ⟨g6, h⟩ := h
          refine acmpV_ne (tgt := 75) E g6 (vpl _ _ (by decide)) dX8_executeBlock_56 (by decide) (fun q5 => ?_) (fun q5 => ?_)
          · replace h := h.1 q5
            refine ra_aload_n E dX8_executeBlock_75 rfl 3 rfl ?_
            refine ra_aload E dX8_executeBlock_76 1 rfl ?_
            refine ra_callIS (rest := []) E (c_X8_isPossible _ h1 _ (isCmd_of g4) _ _ h) (lq_X8 _) ct_X8_isPossible ml_X8_119 (by decide) rfl rfl (Nat.le_of_ble_eq_true rfl) (rR hd (Nat.le_of_ble_eq_true rfl)) ⟨Nat.zero_le _, Nat.zero_le _⟩ dX8_executeBlock_78 (fun r8 M7 h => ?_)
            obtain ⟨b9, h⟩ := h
            refine ra_if_eq (tgt := 103) E dX8_executeBlock_81 (by decide) (fun q10 => ?_) (fun q10 => ?_)
            · replace h := h.1 q10
              refine ra_iconst E dX8_executeBlock_103 ki_0 ?_
              exact ra_zret E hr rfl dX8_executeBlock_104 ⟨Or.inl rfl, h⟩
            · replace h := h.2 q10
              refine ra_aload_n E dX8_executeBlock_84 rfl 3 rfl ?_
              refine ra_aload E dX8_executeBlock_85 1 rfl ?_
              refine ra_callVS (rest := []) E (c_X8_execute _ h1 _ (isCmd_of g4) _ _ h) (lq_X8 _) ct_X8_execute ml_X8_123 (by decide) rfl rfl (Nat.le_of_ble_eq_true rfl) (rR hd (Nat.le_of_ble_eq_true rfl)) ⟨Nat.zero_le _, Nat.zero_le _⟩ dX8_executeBlock_87 (fun M11 h => ?_)
              refine ra_aload_n E dX8_executeBlock_90 rfl 2 rfl ?_
              refine ra_dup E dX8_executeBlock_91 rfl ?_
              refine gf_X8_2 E fl_X8_21 dX8_executeBlock_92 ?_
              refine ra_iconst E dX8_executeBlock_95 ki_1 ?_
              refine ra_iadd E dX8_executeBlock_96 ?_
              refine pf_X8_2 E fl_X8_21 dX8_executeBlock_97 ?_
              replace h := h _ rfl
              refine ra_goto (tgt := 105) E dX8_executeBlock_100 (by decide) ?_
              refine ra_iinc1 (L' := [(6, _), (5, _), (7, _), (0, _), (1, _), (3, _), (4, _)]) E dX8_executeBlock_105 6 rfl (by decide) rfl ?_
              refine ra_goto (tgt := 6) E dX8_executeBlock_108 (by decide) ?_
              exact ra_sub (L' := [(0, _), (1, _), (3, _), (4, _), (5, _), (6, _)]) [3, 4, 5, 6, 1, 0] rfl (ih _ _ _ _ _ h)
          · replace h := h.2 q5
            refine ra_aload_n E dX8_executeBlock_59 rfl 2 rfl ?_
            refine ra_aload_n E dX8_executeBlock_60 rfl 3 rfl ?_
            refine ra_iload E dX8_executeBlock_61 6 rfl ?_
            refine ra_iload E dX8_executeBlock_63 5 rfl ?_
            refine ra_iconst E dX8_executeBlock_65 ki_1 ?_
            refine ra_iadd E dX8_executeBlock_66 ?_
            refine ra_callIV (rest := []) E (hfc _ h1 _ _ _ _ h) (lq_X8 _) cv_X8_executeRepeat ml_X8_115 (by decide) (lm (by decide)) (fun R => ⟨_, cel_3 tc ad R⟩) rfl rfl rfl (Nat.le_of_ble_eq_true rfl) ⟨Nat.le_refl _, Nat.le_refl _⟩ ⟨Nat.zero_le _, Nat.zero_le _⟩ dX8_executeBlock_67 (fun r14 M13 h => ?_)
            obtain ⟨b15, h⟩ := h
            refine ra_if_ne (tgt := 105) E dX8_executeBlock_70 (by decide) (fun q16 => ?_) (fun q16 => ?_)
            · replace h := h.1 q16
              refine ra_iinc1 (L' := [(6, _), (5, _), (7, _), (0, _), (1, _), (3, _), (4, _)]) E dX8_executeBlock_105 6 rfl (by decide) rfl ?_
              refine ra_goto (tgt := 6) E dX8_executeBlock_108 (by decide) ?_
              exact ra_sub (L' := [(0, _), (1, _), (3, _), (4, _), (5, _), (6, _)]) [3, 4, 5, 6, 1, 0] rfl (ih _ _ _ _ _ h)
            · replace h := h.2 q16
              refine ra_iconst E dX8_executeBlock_73 ki_0 ?_
              exact ra_zret E hr rfl dX8_executeBlock_74 ⟨Or.inl rfl, h⟩
        · replace h := h.2 q3
          refine ra_goto (tgt := 105) E dX8_executeBlock_29 (by decide) ?_
          refine ra_iinc1 (L' := [(6, _), (0, _), (1, _), (3, _), (4, _), (5, _)]) E dX8_executeBlock_105 5 rfl (by decide) rfl ?_
          refine ra_goto (tgt := 6) E dX8_executeBlock_108 (by decide) ?_
          exact ra_sub (L' := [(0, _), (1, _), (3, _), (4, _), (5, _), (6, _)]) [1, 2, 3, 4, 5, 0] rfl (ih _ _ _ _ _ h)
def f_X8_executeBlock (fc : Nat → Int32 → Int32 → TM → (Int32 → TM → Prop) → Prop) (a1 : Nat) (p2 : Int32) (p3 : Int32) (p4 : Int32) (M : TM) (K : Int32 → TM → Prop) : Prop := ∃ n, f_X8_executeBlock_L6 fc a1 p2 p3 p4 K n p3 p4 p2 p2 M
set_option maxRecDepth 100000 in
set_option maxHeartbeats 4000000 in
theorem c_X8_executeBlock {ad : Nat → Nat} (fc : Nat → Int32 → Int32 → TM → (Int32 → TM → Prop) → Prop) (dd : Nat) (hd : 4 ≤ dd) (hfc : ∀ (a1 : Nat) (h1 : IsCanal a1) (p2 : Int32) (p3 : Int32) (M : TM) (K : Int32 → TM → Prop), fc a1 p2 p3 M K → MI yX8_executeRepeat cX8_executeRepeat 6 (some .boolean) dd ad [.ref (ad 3), .ref (ad a1), .int p2, .int p3] M (fun r M' => (r = 0 ∨ r = 1) ∧ K r M')) (a1 : Nat) (h1 : IsCanal a1) (p2 : Int32) (p3 : Int32) (p4 : Int32) (M : TM) (K : Int32 → TM → Prop) (h : f_X8_executeBlock fc a1 p2 p3 p4 M K) : MI yX8_executeBlock cX8_executeBlock 8 (some .boolean) (dd + 1) ad [.ref (ad 3), .ref (ad a1), .int p2, .int p3, .int p4] M (fun r M' => (r = 0 ∨ r = 1) ∧ K r M') := by
  refine MI_of RX8 rfl (by decide +kernel) (Nat.le_of_ble_eq_true rfl) (fun p l e s m below meth c D tc E hr => ?_)
  unfold f_X8_executeBlock at h
  refine ra_iload_n E dX8_executeBlock_0 rfl 2 rfl ?_
  refine ra_istore (L' := [(5, _), (0, _), (1, _), (2, _), (3, _), (4, _)]) E dX8_executeBlock_1 (by decide) rfl ?_
  refine ra_iload_n E dX8_executeBlock_3 rfl 3 rfl ?_
  refine ra_istore (L' := [(6, _), (5, _), (0, _), (1, _), (2, _), (3, _), (4, _)]) E dX8_executeBlock_4 (by decide) rfl ?_
  obtain ⟨n17, h⟩ := h
  exact ra_sub (L' := [(0, _), (1, _), (3, _), (4, _), (5, _), (6, _)]) [2, 3, 5, 6, 1, 0] rfl (l_X8_executeBlock_L6 fc dd hd hfc a1 h1 p2 p3 p4 E hr n17 _ _ _ _ _ h)
def f_X8_executeRepeat_L31 (fc : Nat → Int32 → Int32 → Int32 → TM → (Int32 → TM → Prop) → Prop) (a1 : Nat) (p2 : Int32) (p3 : Int32) (K : Int32 → TM → Prop) : Nat → Int32 → Int32 → Nat → Int32 → TM → Prop
  | 0, _, _, _, _, _ => False
  | n + 1, x2, x3, x4, x5, M => (((M x4 1) ≤ x5 → K (1 : Int32) M) ∧ (¬ (M x4 1) ≤ x5 → fc a1 (x2 + (1 : Int32)) (M x4 5) x3 M (fun r7 M6 => ((¬ r7 = 0 → f_X8_executeRepeat_L31 fc a1 p2 p3 K n x2 x3 x4 (x5 + 1) M6) ∧ (r7 = 0 → K (0 : Int32) M6)))))
set_option maxRecDepth 100000 in
set_option maxHeartbeats 4000000 in
theorem l_X8_executeRepeat_L31 {p : Program} {l : Launch} {e : Env} {s : State} {m : MethodId} {args : Array Value} {below : List Frame} {meth : Method} {c : Code} {D : va_G} {tc : Nat → ClassId} {ad : Nat → Nat} (fc : Nat → Int32 → Int32 → Int32 → TM → (Int32 → TM → Prop) → Prop) (dd : Nat) (hd : 4 ≤ dd) (hfc : ∀ (a1 : Nat) (h1 : IsCanal a1) (p2 : Int32) (p3 : Int32) (p4 : Int32) (M : TM) (K : Int32 → TM → Prop), fc a1 p2 p3 p4 M K → MI yX8_executeBlock cX8_executeBlock 8 (some .boolean) dd ad [.ref (ad 3), .ref (ad a1), .int p2, .int p3, .int p4] M (fun r M' => (r = 0 ∨ r = 1) ∧ K r M')) (a1 : Nat) (h1 : IsCanal a1) (p2 : Int32) (p3 : Int32) {K : Int32 → TM → Prop} (E : Ev p s m args meth c D tc ad RX8 cX8_executeRepeat 6) (hr : meth.sig.returnType = (some .boolean)) : ∀ (n : Nat) (x2 : Int32) (x3 : Int32) (x4 : Nat) (x5 : Int32) (M : TM) (gx4 : IsCmd x4), f_X8_executeRepeat_L31 fc a1 p2 p3 K n x2 x3 x4 x5 M → Wa p l e (rmD (dd + 1)) s m args below meth c 0 0 (MQ below (va_Qi (fun r M' => (r = 0 ∨ r = 1) ∧ K r M') (EndW D tc ad) (A0 ad s.heap.size)) args s 0 0 (A0 ad s.heap.size)) D tc ad 6 M 31 [(0, .ref (ad 3)), (1, .ref (ad a1)), (2, .int x2), (3, .int x3), (4, .ref (ad x4)), (5, .int x5)] [] := by
  intro n
  induction n with
  | zero => intro x2 x3 x4 x5 M gx4 h; exact h.elim
  | succ n ih =>
    intro x2 x3 x4 x5 M gx4 h
    unfold f_X8_executeRepeat_L31 at h
    refine ra_iload E dX8_executeRepeat_31 5 rfl ?_
    refine ra_aload E dX8_executeRepeat_33 4 rfl ?_
    refine gf_X4_1 E gx4 fl_X8_99 dX8_executeRepeat_35 ?_
    refine ra_icmp_ge (tgt := 66) E dX8_executeRepeat_38 (by decide) (fun q5 => ?_) (fun q5 => ?_)
    · replace h := h.1 q5
      refine ra_iconst E dX8_executeRepeat_66 ki_1 ?_
      exact ra_zret E hr rfl dX8_executeRepeat_67 ⟨Or.inr rfl, h⟩
    · replace h := h.2 q5
      refine ra_aload_n E dX8_executeRepeat_41 rfl 0 rfl ?_
      refine ra_aload_n E dX8_executeRepeat_42 rfl 1 rfl ?_
      refine ra_iload_n E dX8_executeRepeat_43 rfl 2 rfl ?_
      refine ra_iconst E dX8_executeRepeat_44 ki_1 ?_
      refine ra_iadd E dX8_executeRepeat_45 ?_
      refine ra_aload E dX8_executeRepeat_46 4 rfl ?_
      refine gf_X4_5 E gx4 fl_X8_70 dX8_executeRepeat_48 ?_
      refine ra_iload_n E dX8_executeRepeat_51 rfl 3 rfl ?_
      refine ra_callIV (rest := []) E (hfc _ h1 _ _ _ _ _ h) (lq_X8 _) cv_X8_executeBlock ml_X8_111 (by decide) (lm (by decide)) (fun R => ⟨_, cel_3 tc ad R⟩) rfl rfl rfl (Nat.le_of_ble_eq_true rfl) ⟨Nat.le_refl _, Nat.le_refl _⟩ ⟨Nat.zero_le _, Nat.zero_le _⟩ dX8_executeRepeat_52 (fun r7 M6 h => ?_)
      obtain ⟨b8, h⟩ := h
      refine ra_if_ne (tgt := 60) E dX8_executeRepeat_55 (by decide) (fun q9 => ?_) (fun q9 => ?_)
      · replace h := h.1 q9
        refine ra_iinc1 (L' := [(5, _), (0, _), (1, _), (2, _), (3, _), (4, _)]) E dX8_executeRepeat_60 5 rfl (by decide) rfl ?_
        refine ra_goto (tgt := 31) E dX8_executeRepeat_63 (by decide) ?_
        exact ra_sub (L' := [(0, _), (1, _), (2, _), (3, _), (4, _), (5, _)]) [1, 2, 3, 4, 5, 0] rfl (ih _ _ _ _ _ gx4 h)
      · replace h := h.2 q9
        refine ra_iconst E dX8_executeRepeat_58 ki_0 ?_
        exact ra_zret E hr rfl dX8_executeRepeat_59 ⟨Or.inl rfl, h⟩
def f_X8_executeRepeat (fc : Nat → Int32 → Int32 → Int32 → TM → (Int32 → TM → Prop) → Prop) (a1 : Nat) (p2 : Int32) (p3 : Int32) (M : TM) (K : Int32 → TM → Prop) : Prop := (((2 : Int32) < p3 → K (0 : Int32) M) ∧ (¬ (2 : Int32) < p3 → ((p2 < 0 → K (0 : Int32) M) ∧ (¬ p2 < 0 → ((p2 < (20 : Int32) → vp_in p2 20 ∧ ∃ n, f_X8_executeRepeat_L31 fc a1 p2 p3 K n p2 p3 (5 + p2.toNatClampNeg) (0 : Int32) M) ∧ (¬ p2 < (20 : Int32) → K (0 : Int32) M))))))
set_option maxRecDepth 100000 in
set_option maxHeartbeats 4000000 in
theorem c_X8_executeRepeat {ad : Nat → Nat} (fc : Nat → Int32 → Int32 → Int32 → TM → (Int32 → TM → Prop) → Prop) (dd : Nat) (hd : 4 ≤ dd) (hfc : ∀ (a1 : Nat) (h1 : IsCanal a1) (p2 : Int32) (p3 : Int32) (p4 : Int32) (M : TM) (K : Int32 → TM → Prop), fc a1 p2 p3 p4 M K → MI yX8_executeBlock cX8_executeBlock 8 (some .boolean) dd ad [.ref (ad 3), .ref (ad a1), .int p2, .int p3, .int p4] M (fun r M' => (r = 0 ∨ r = 1) ∧ K r M')) (a1 : Nat) (h1 : IsCanal a1) (p2 : Int32) (p3 : Int32) (M : TM) (K : Int32 → TM → Prop) (h : f_X8_executeRepeat fc a1 p2 p3 M K) : MI yX8_executeRepeat cX8_executeRepeat 6 (some .boolean) (dd + 1) ad [.ref (ad 3), .ref (ad a1), .int p2, .int p3] M (fun r M' => (r = 0 ∨ r = 1) ∧ K r M') := by
  refine MI_of RX8 rfl (by decide +kernel) (Nat.le_of_ble_eq_true rfl) (fun p l e s m below meth c D tc E hr => ?_)
  unfold f_X8_executeRepeat at h
  refine ra_iload_n E dX8_executeRepeat_0 rfl 3 rfl ?_
  refine ra_iconst E dX8_executeRepeat_1 ki_2 ?_
  refine ra_icmp_gt (tgt := 18) E dX8_executeRepeat_2 (by decide) (fun q1 => ?_) (fun q1 => ?_)
  · replace h := h.1 q1
    refine ra_iconst E dX8_executeRepeat_18 ki_0 ?_
    exact ra_zret E hr rfl dX8_executeRepeat_19 ⟨Or.inl rfl, h⟩
  · replace h := h.2 q1
    refine ra_iload_n E dX8_executeRepeat_5 rfl 2 rfl ?_
    refine ra_if_lt (tgt := 18) E dX8_executeRepeat_6 (by decide) (fun q2 => ?_) (fun q2 => ?_)
    · replace h := h.1 q2
      refine ra_iconst E dX8_executeRepeat_18 ki_0 ?_
      exact ra_zret E hr rfl dX8_executeRepeat_19 ⟨Or.inl rfl, h⟩
    · replace h := h.2 q2
      refine ra_iload_n E dX8_executeRepeat_9 rfl 2 rfl ?_
      refine ra_aload_n E dX8_executeRepeat_10 rfl 0 rfl ?_
      refine gf_X8_0 E fl_X8_11 dX8_executeRepeat_11 ?_
      refine ra_alen (n := 20) (v := 20) E (lm (by decide)) (fun R => ⟨_, (cel_4 tc ad) R, rfl⟩) rfl (by decide) dX8_executeRepeat_14 ?_
      refine ra_icmp_lt (tgt := 20) E dX8_executeRepeat_15 (by decide) (fun q3 => ?_) (fun q3 => ?_)
      · replace h := h.1 q3
        refine ra_aload_n E dX8_executeRepeat_20 rfl 0 rfl ?_
        refine gf_X8_0 E fl_X8_11 dX8_executeRepeat_21 ?_
        refine ra_iload_n E dX8_executeRepeat_24 rfl 2 rfl ?_
        obtain ⟨g4, h⟩ := h
        refine ra_aald E (lm (by decide)) (cel_4 tc ad) rfl g4 dX8_executeRepeat_25 ?_
        refine ra_astore (L' := [(4, _), (0, _), (1, _), (2, _), (3, _)]) E dX8_executeRepeat_26 (by decide) rfl ?_
        refine ra_iconst E dX8_executeRepeat_28 ki_0 ?_
        refine ra_istore (L' := [(5, _), (4, _), (0, _), (1, _), (2, _), (3, _)]) E dX8_executeRepeat_29 (by decide) rfl ?_
        obtain ⟨n10, h⟩ := h
        exact ra_sub (L' := [(0, _), (1, _), (2, _), (3, _), (4, _), (5, _)]) [2, 3, 4, 5, 1, 0] rfl (l_X8_executeRepeat_L31 fc dd hd hfc a1 h1 p2 p3 E hr n10 _ _ _ _ _ (isCmd_of g4) h)
      · replace h := h.2 q3
        refine ra_iconst E dX8_executeRepeat_18 ki_0 ?_
        exact ra_zret E hr rfl dX8_executeRepeat_19 ⟨Or.inl rfl, h⟩
def f_X8_executeRepeatR : Nat → Nat → Int32 → Int32 → TM → (Int32 → TM → Prop) → Prop
  | 0 => fun _ _ _ _ _ => False
  | k + 1 => fun a1 p2 p3 M K => f_X8_executeRepeat (fun a1 p2 p3 p4 M K => f_X8_executeBlock (f_X8_executeRepeatR k) a1 p2 p3 p4 M K) a1 p2 p3 M K
theorem c_X8_executeRepeatR {ad : Nat → Nat} : ∀ (k : Nat) (a1 : Nat) (h1 : IsCanal a1) (p2 : Int32) (p3 : Int32) (M : TM) (K : Int32 → TM → Prop), f_X8_executeRepeatR k a1 p2 p3 M K → MI yX8_executeRepeat cX8_executeRepeat 6 (some .boolean) (4 + 2 * k) ad [.ref (ad 3), .ref (ad a1), .int p2, .int p3] M (fun r M' => (r = 0 ∨ r = 1) ∧ K r M') := by
  intro k
  induction k with
  | zero => intro a1 h1 p2 p3 M K h; exact h.elim
  | succ k ih => intro a1 h1 p2 p3 M K h; exact c_X8_executeRepeat (fun a1 p2 p3 p4 M K => f_X8_executeBlock (f_X8_executeRepeatR k) a1 p2 p3 p4 M K) (4 + 2 * k + 1) (by omega) (fun a1 h1 p2 p3 p4 M K h => c_X8_executeBlock (f_X8_executeRepeatR k) (4 + 2 * k) (by omega) ih a1 h1 p2 p3 p4 M K h) a1 h1 p2 p3 M K h
def f_X8_executeBlockC (a1 : Nat) (p2 : Int32) (p3 : Int32) (p4 : Int32) (M : TM) (K : Int32 → TM → Prop) : Prop := f_X8_executeBlock (f_X8_executeRepeatR 3) a1 p2 p3 p4 M K
theorem c_X8_executeBlockC {ad : Nat → Nat} (a1 : Nat) (h1 : IsCanal a1) (p2 : Int32) (p3 : Int32) (p4 : Int32) (M : TM) (K : Int32 → TM → Prop) (h : f_X8_executeBlockC a1 p2 p3 p4 M K) : MI yX8_executeBlock cX8_executeBlock 8 (some .boolean) 11 ad [.ref (ad 3), .ref (ad a1), .int p2, .int p3, .int p4] M (fun r M' => (r = 0 ∨ r = 1) ∧ K r M') := c_X8_executeBlock (f_X8_executeRepeatR 3) 10 (by omega) (c_X8_executeRepeatR 3) a1 h1 p2 p3 p4 M K h
def f_X8_executeRepeatC (a1 : Nat) (p2 : Int32) (p3 : Int32) (M : TM) (K : Int32 → TM → Prop) : Prop := f_X8_executeRepeatR 3 a1 p2 p3 M K
theorem c_X8_executeRepeatC {ad : Nat → Nat} (a1 : Nat) (h1 : IsCanal a1) (p2 : Int32) (p3 : Int32) (M : TM) (K : Int32 → TM → Prop) (h : f_X8_executeRepeatC a1 p2 p3 M K) : MI yX8_executeRepeat cX8_executeRepeat 6 (some .boolean) 10 ad [.ref (ad 3), .ref (ad a1), .int p2, .int p3] M (fun r M' => (r = 0 ∨ r = 1) ∧ K r M') := c_X8_executeRepeatR 3 a1 h1 p2 p3 M K h
def f_X3_parseSections_L2 (a1 : Nat) (K : TM → Prop) : Nat → Int32 → TM → Prop
  | 0, _, _ => False
  | n + 1, x2, M => (((500 : Int32) ≤ x2 → K M) ∧ (¬ (500 : Int32) ≤ x2 → f_X10_isAtWord 10 M (fun r3 M2 => ((r3 = 0 → f_X10_isAtWord 11 M2 (fun r7 M6 => ((r7 = 0 → K M6) ∧ (¬ r7 = 0 → f_X3_parseBridge a1 M6 (fun M10 => f_X3_parseSections_L2 a1 K n (x2 + 1) M10))))) ∧ (¬ r3 = 0 → f_X3_parseLock a1 M2 (fun M11 => f_X3_parseSections_L2 a1 K n (x2 + 1) M11))))))
set_option maxRecDepth 100000 in
set_option maxHeartbeats 4000000 in
theorem l_X3_parseSections_L2 {p : Program} {l : Launch} {e : Env} {s : State} {m : MethodId} {args : Array Value} {below : List Frame} {meth : Method} {c : Code} {D : va_G} {tc : Nat → ClassId} {ad : Nat → Nat} (a1 : Nat) (h1 : IsCanal a1) {K : TM → Prop} (E : Ev p s m args meth c D tc ad RX3 cX3_parseSections 3) (hr : meth.sig.returnType = none) : ∀ (n : Nat) (x2 : Int32) (M : TM) , f_X3_parseSections_L2 a1 K n x2 M → Wa p l e (rmD 5) s m args below meth c 0 0 (MQ below (va_Qv K (EndW D tc ad) (A0 ad s.heap.size)) args s 0 0 (A0 ad s.heap.size)) D tc ad 3 M 2 [(0, .ref (ad 1)), (1, .ref (ad a1)), (2, .int x2)] [] := by
  intro n
  induction n with
  | zero => intro x2 M  h; exact h.elim
  | succ n ih =>
    intro x2 M  h
    unfold f_X3_parseSections_L2 at h
    refine ra_iload_n E dX3_parseSections_2 rfl 2 rfl ?_
    refine ra_sipush E dX3_parseSections_3 ks_500 ?_
    refine ra_icmp_ge (tgt := 50) E dX3_parseSections_6 (by decide) (fun q1 => ?_) (fun q1 => ?_)
    · replace h := h.1 q1
      exact ra_vret E hr dX3_parseSections_50 h
    · replace h := h.2 q1
      refine ra_aload_n E dX3_parseSections_9 rfl 0 rfl ?_
      refine ra_ldcS E sr_X3_42 dX3_parseSections_10 ?_
      refine ra_callIV (rest := []) E (c_X10_isAtWord _ (Nat.le_of_ble_eq_true rfl) _ _ h) (lq_X10 _) cv_X10_isAtWord ml_X3_44 (by decide) (lm (by decide)) (fun R => ⟨_, cel_1 tc ad R⟩) rfl rfl rfl (Nat.le_of_ble_eq_true rfl) ⟨Nat.le_of_ble_eq_true rfl, Nat.le_of_ble_eq_true rfl⟩ ⟨Nat.zero_le _, Nat.zero_le _⟩ dX3_parseSections_12 (fun r3 M2 h => ?_)
      obtain ⟨b4, h⟩ := h
      refine ra_if_eq (tgt := 26) E dX3_parseSections_15 (by decide) (fun q5 => ?_) (fun q5 => ?_)
      · replace h := h.1 q5
        refine ra_aload_n E dX3_parseSections_26 rfl 0 rfl ?_
        refine ra_ldcS E sr_X3_51 dX3_parseSections_27 ?_
        refine ra_callIV (rest := []) E (c_X10_isAtWord _ (Nat.le_of_ble_eq_true rfl) _ _ h) (lq_X10 _) cv_X10_isAtWord ml_X3_44 (by decide) (lm (by decide)) (fun R => ⟨_, cel_1 tc ad R⟩) rfl rfl rfl (Nat.le_of_ble_eq_true rfl) ⟨Nat.le_of_ble_eq_true rfl, Nat.le_of_ble_eq_true rfl⟩ ⟨Nat.zero_le _, Nat.zero_le _⟩ dX3_parseSections_29 (fun r7 M6 h => ?_)
        obtain ⟨b8, h⟩ := h
        refine ra_if_eq (tgt := 43) E dX3_parseSections_32 (by decide) (fun q9 => ?_) (fun q9 => ?_)
        · replace h := h.1 q9
          exact ra_vret E hr dX3_parseSections_43 h
        · replace h := h.2 q9
          refine ra_aload_n E dX3_parseSections_35 rfl 0 rfl ?_
          refine ra_aload_n E dX3_parseSections_36 rfl 1 rfl ?_
          refine ra_callVS (rest := []) E (c_X3_parseBridge _ h1 _ _ h) (lq_X3 _) ct_X3_parseBridge ml_X3_53 (by decide) rfl rfl (Nat.le_of_ble_eq_true rfl) ⟨Nat.le_of_ble_eq_true rfl, Nat.le_of_ble_eq_true rfl⟩ ⟨Nat.zero_le _, Nat.zero_le _⟩ dX3_parseSections_37 (fun M10 h => ?_)
          refine ra_goto (tgt := 44) E dX3_parseSections_40 (by decide) ?_
          refine ra_iinc1 (L' := [(2, _), (0, _), (1, _)]) E dX3_parseSections_44 2 rfl (by decide) rfl ?_
          refine ra_goto (tgt := 2) E dX3_parseSections_47 (by decide) ?_
          exact ra_sub (L' := [(0, _), (1, _), (2, _)]) [1, 2, 0] rfl (ih _ _ h)
      · replace h := h.2 q5
        refine ra_aload_n E dX3_parseSections_18 rfl 0 rfl ?_
        refine ra_aload_n E dX3_parseSections_19 rfl 1 rfl ?_
        refine ra_callVS (rest := []) E (c_X3_parseLock _ h1 _ _ h) (lq_X3 _) ct_X3_parseLock ml_X3_48 (by decide) rfl rfl (Nat.le_of_ble_eq_true rfl) ⟨Nat.le_of_ble_eq_true rfl, Nat.le_of_ble_eq_true rfl⟩ ⟨Nat.zero_le _, Nat.zero_le _⟩ dX3_parseSections_20 (fun M11 h => ?_)
        refine ra_goto (tgt := 44) E dX3_parseSections_23 (by decide) ?_
        refine ra_iinc1 (L' := [(2, _), (0, _), (1, _)]) E dX3_parseSections_44 2 rfl (by decide) rfl ?_
        refine ra_goto (tgt := 2) E dX3_parseSections_47 (by decide) ?_
        exact ra_sub (L' := [(0, _), (1, _), (2, _)]) [1, 2, 0] rfl (ih _ _ h)
def f_X3_parseSections (a1 : Nat) (M : TM) (K : TM → Prop) : Prop := ∃ n, f_X3_parseSections_L2 a1 K n (0 : Int32) M
set_option maxRecDepth 100000 in
set_option maxHeartbeats 4000000 in
theorem c_X3_parseSections {ad : Nat → Nat} (a1 : Nat) (h1 : IsCanal a1) (M : TM) (K : TM → Prop) (h : f_X3_parseSections a1 M K) : MV yX3_parseSections cX3_parseSections 3 5 ad [.ref (ad 1), .ref (ad a1)] M K := by
  refine MV_of RX3 rfl (by decide +kernel) (Nat.le_of_ble_eq_true rfl) (fun p l e s m below meth c D tc E hr => ?_)
  unfold f_X3_parseSections at h
  refine ra_iconst E dX3_parseSections_0 ki_0 ?_
  refine ra_istore_n (L' := [(2, _), (0, _), (1, _)]) E dX3_parseSections_1 rfl (by decide) rfl ?_
  obtain ⟨n12, h⟩ := h
  exact ra_sub (L' := [(0, _), (1, _), (2, _)]) [1, 2, 0] rfl (l_X3_parseSections_L2 a1 h1 E hr n12 _ _ h)
def f_X3_parseBarges_L16 (a1 : Nat) (K : TM → Prop) : Nat → Int32 → TM → Prop
  | 0, _, _ => False
  | n + 1, x2, M => (((5 : Int32) < x2 → K M) ∧ (¬ (5 : Int32) < x2 → f_X10_isAtWord 12 M (fun r7 M6 => ((r7 = 0 → K M6) ∧ (¬ r7 = 0 → ((¬ x2 = (5 : Int32) → f_X3_parseBarge a1 M6 (fun M11 => f_X3_parseBarges_L16 a1 K n (x2 + 1) M11)) ∧ (x2 = (5 : Int32) → f_X10_fail (4 : Int32) M6 (fun M12 => f_X3_parseBarges_L16 a1 K n (x2 + 1) M12))))))))
set_option maxRecDepth 100000 in
set_option maxHeartbeats 4000000 in
theorem l_X3_parseBarges_L16 {p : Program} {l : Launch} {e : Env} {s : State} {m : MethodId} {args : Array Value} {below : List Frame} {meth : Method} {c : Code} {D : va_G} {tc : Nat → ClassId} {ad : Nat → Nat} (a1 : Nat) (h1 : IsCanal a1) {K : TM → Prop} (E : Ev p s m args meth c D tc ad RX3 cX3_parseBarges 3) (hr : meth.sig.returnType = none) : ∀ (n : Nat) (x2 : Int32) (M : TM) , f_X3_parseBarges_L16 a1 K n x2 M → Wa p l e (rmD 5) s m args below meth c 0 0 (MQ below (va_Qv K (EndW D tc ad) (A0 ad s.heap.size)) args s 0 0 (A0 ad s.heap.size)) D tc ad 3 M 16 [(0, .ref (ad 1)), (1, .ref (ad a1)), (2, .int x2)] [] := by
  intro n
  induction n with
  | zero => intro x2 M  h; exact h.elim
  | succ n ih =>
    intro x2 M  h
    unfold f_X3_parseBarges_L16 at h
    refine ra_iload_n E dX3_parseBarges_16 rfl 2 rfl ?_
    refine ra_iconst E dX3_parseBarges_17 ki_5 ?_
    refine ra_icmp_gt (tgt := 54) E dX3_parseBarges_18 (by decide) (fun q5 => ?_) (fun q5 => ?_)
    · replace h := h.1 q5
      exact ra_vret E hr dX3_parseBarges_54 h
    · replace h := h.2 q5
      refine ra_aload_n E dX3_parseBarges_21 rfl 0 rfl ?_
      refine ra_ldcS E sr_X3_86 dX3_parseBarges_22 ?_
      refine ra_callIV (rest := []) E (c_X10_isAtWord _ (Nat.le_of_ble_eq_true rfl) _ _ h) (lq_X10 _) cv_X10_isAtWord ml_X3_44 (by decide) (lm (by decide)) (fun R => ⟨_, cel_1 tc ad R⟩) rfl rfl rfl (Nat.le_of_ble_eq_true rfl) ⟨Nat.le_of_ble_eq_true rfl, Nat.le_of_ble_eq_true rfl⟩ ⟨Nat.zero_le _, Nat.zero_le _⟩ dX3_parseBarges_24 (fun r7 M6 h => ?_)
      obtain ⟨b8, h⟩ := h
      refine ra_if_eq (tgt := 54) E dX3_parseBarges_27 (by decide) (fun q9 => ?_) (fun q9 => ?_)
      · replace h := h.1 q9
        exact ra_vret E hr dX3_parseBarges_54 h
      · replace h := h.2 q9
        refine ra_iload_n E dX3_parseBarges_30 rfl 2 rfl ?_
        refine ra_iconst E dX3_parseBarges_31 ki_5 ?_
        refine ra_icmp_ne (tgt := 43) E dX3_parseBarges_32 (by decide) (fun q10 => ?_) (fun q10 => ?_)
        · replace h := h.1 q10
          refine ra_aload_n E dX3_parseBarges_43 rfl 0 rfl ?_
          refine ra_aload_n E dX3_parseBarges_44 rfl 1 rfl ?_
          refine ra_callVS (rest := []) E (c_X3_parseBarge _ h1 _ _ h) (lq_X3 _) ct_X3_parseBarge ml_X3_91 (by decide) rfl rfl (Nat.le_of_ble_eq_true rfl) ⟨Nat.le_of_ble_eq_true rfl, Nat.le_of_ble_eq_true rfl⟩ ⟨Nat.zero_le _, Nat.zero_le _⟩ dX3_parseBarges_45 (fun M11 h => ?_)
          refine ra_iinc1 (L' := [(2, _), (0, _), (1, _)]) E dX3_parseBarges_48 2 rfl (by decide) rfl ?_
          refine ra_goto (tgt := 16) E dX3_parseBarges_51 (by decide) ?_
          exact ra_sub (L' := [(0, _), (1, _), (2, _)]) [1, 2, 0] rfl (ih _ _ h)
        · replace h := h.2 q10
          refine ra_aload_n E dX3_parseBarges_35 rfl 0 rfl ?_
          refine ra_iconst E dX3_parseBarges_36 ki_4 ?_
          refine ra_callVV (rest := []) E (c_X10_fail _ _ _ h) (lq_X10 _) cv_X10_fail ml_X3_88 (by decide) (lm (by decide)) (fun R => ⟨_, cel_1 tc ad R⟩) rfl rfl rfl (Nat.le_of_ble_eq_true rfl) ⟨Nat.le_of_ble_eq_true rfl, Nat.le_of_ble_eq_true rfl⟩ ⟨Nat.zero_le _, Nat.zero_le _⟩ dX3_parseBarges_37 (fun M12 h => ?_)
          refine ra_goto (tgt := 48) E dX3_parseBarges_40 (by decide) ?_
          refine ra_iinc1 (L' := [(2, _), (0, _), (1, _)]) E dX3_parseBarges_48 2 rfl (by decide) rfl ?_
          refine ra_goto (tgt := 16) E dX3_parseBarges_51 (by decide) ?_
          exact ra_sub (L' := [(0, _), (1, _), (2, _)]) [1, 2, 0] rfl (ih _ _ h)
def f_X3_parseBarges (a1 : Nat) (M : TM) (K : TM → Prop) : Prop := f_X10_isAtWord 12 M (fun r2 M1 => ((¬ r2 = 0 → ∃ n, f_X3_parseBarges_L16 a1 K n (0 : Int32) M1) ∧ (r2 = 0 → f_X10_fail (1 : Int32) M1 (fun M14 => ∃ n, f_X3_parseBarges_L16 a1 K n (0 : Int32) M14))))
set_option maxRecDepth 100000 in
set_option maxHeartbeats 4000000 in
theorem c_X3_parseBarges {ad : Nat → Nat} (a1 : Nat) (h1 : IsCanal a1) (M : TM) (K : TM → Prop) (h : f_X3_parseBarges a1 M K) : MV yX3_parseBarges cX3_parseBarges 3 5 ad [.ref (ad 1), .ref (ad a1)] M K := by
  refine MV_of RX3 rfl (by decide +kernel) (Nat.le_of_ble_eq_true rfl) (fun p l e s m below meth c D tc E hr => ?_)
  unfold f_X3_parseBarges at h
  refine ra_aload_n E dX3_parseBarges_0 rfl 0 rfl ?_
  refine ra_ldcS E sr_X3_86 dX3_parseBarges_1 ?_
  refine ra_callIV (rest := []) E (c_X10_isAtWord _ (Nat.le_of_ble_eq_true rfl) _ _ h) (lq_X10 _) cv_X10_isAtWord ml_X3_44 (by decide) (lm (by decide)) (fun R => ⟨_, cel_1 tc ad R⟩) rfl rfl rfl (Nat.le_of_ble_eq_true rfl) ⟨Nat.le_of_ble_eq_true rfl, Nat.le_of_ble_eq_true rfl⟩ ⟨Nat.zero_le _, Nat.zero_le _⟩ dX3_parseBarges_3 (fun r2 M1 h => ?_)
  obtain ⟨b3, h⟩ := h
  refine ra_if_ne (tgt := 14) E dX3_parseBarges_6 (by decide) (fun q4 => ?_) (fun q4 => ?_)
  · replace h := h.1 q4
    refine ra_iconst E dX3_parseBarges_14 ki_0 ?_
    refine ra_istore_n (L' := [(2, _), (0, _), (1, _)]) E dX3_parseBarges_15 rfl (by decide) rfl ?_
    obtain ⟨n13, h⟩ := h
    exact ra_sub (L' := [(0, _), (1, _), (2, _)]) [1, 2, 0] rfl (l_X3_parseBarges_L16 a1 h1 E hr n13 _ _ h)
  · replace h := h.2 q4
    refine ra_aload_n E dX3_parseBarges_9 rfl 0 rfl ?_
    refine ra_iconst E dX3_parseBarges_10 ki_1 ?_
    refine ra_callVV (rest := []) E (c_X10_fail _ _ _ h) (lq_X10 _) cv_X10_fail ml_X3_88 (by decide) (lm (by decide)) (fun R => ⟨_, cel_1 tc ad R⟩) rfl rfl rfl (Nat.le_of_ble_eq_true rfl) ⟨Nat.le_of_ble_eq_true rfl, Nat.le_of_ble_eq_true rfl⟩ ⟨Nat.zero_le _, Nat.zero_le _⟩ dX3_parseBarges_11 (fun M14 h => ?_)
    refine ra_iconst E dX3_parseBarges_14 ki_0 ?_
    refine ra_istore_n (L' := [(2, _), (0, _), (1, _)]) E dX3_parseBarges_15 rfl (by decide) rfl ?_
    obtain ⟨n15, h⟩ := h
    exact ra_sub (L' := [(0, _), (1, _), (2, _)]) [1, 2, 0] rfl (l_X3_parseBarges_L16 a1 h1 E hr n15 _ _ h)
def f_X3_parseOrders_L2 (a1 : Nat) (K : TM → Prop) : Nat → Int32 → TM → Prop
  | 0, _, _ => False
  | n + 1, x2, M => (((30 : Int32) < x2 → K M) ∧ (¬ (30 : Int32) < x2 → f_X10_isAtWord 1 M (fun r3 M2 => ((r3 = 0 → K M2) ∧ (¬ r3 = 0 → ((¬ x2 = (30 : Int32) → f_X3_parseOrder a1 M2 (fun M7 => f_X3_parseOrders_L2 a1 K n (x2 + 1) M7)) ∧ (x2 = (30 : Int32) → f_X10_fail (4 : Int32) M2 (fun M8 => f_X3_parseOrders_L2 a1 K n (x2 + 1) M8))))))))
set_option maxRecDepth 100000 in
set_option maxHeartbeats 4000000 in
theorem l_X3_parseOrders_L2 {p : Program} {l : Launch} {e : Env} {s : State} {m : MethodId} {args : Array Value} {below : List Frame} {meth : Method} {c : Code} {D : va_G} {tc : Nat → ClassId} {ad : Nat → Nat} (a1 : Nat) (h1 : IsCanal a1) {K : TM → Prop} (E : Ev p s m args meth c D tc ad RX3 cX3_parseOrders 3) (hr : meth.sig.returnType = none) : ∀ (n : Nat) (x2 : Int32) (M : TM) , f_X3_parseOrders_L2 a1 K n x2 M → Wa p l e (rmD 5) s m args below meth c 0 0 (MQ below (va_Qv K (EndW D tc ad) (A0 ad s.heap.size)) args s 0 0 (A0 ad s.heap.size)) D tc ad 3 M 2 [(0, .ref (ad 1)), (1, .ref (ad a1)), (2, .int x2)] [] := by
  intro n
  induction n with
  | zero => intro x2 M  h; exact h.elim
  | succ n ih =>
    intro x2 M  h
    unfold f_X3_parseOrders_L2 at h
    refine ra_iload_n E dX3_parseOrders_2 rfl 2 rfl ?_
    refine ra_bipush E dX3_parseOrders_3 kb_30 ?_
    refine ra_icmp_gt (tgt := 42) E dX3_parseOrders_5 (by decide) (fun q1 => ?_) (fun q1 => ?_)
    · replace h := h.1 q1
      exact ra_vret E hr dX3_parseOrders_42 h
    · replace h := h.2 q1
      refine ra_aload_n E dX3_parseOrders_8 rfl 0 rfl ?_
      refine ra_ldcS E sr_X3_98 dX3_parseOrders_9 ?_
      refine ra_callIV (rest := []) E (c_X10_isAtWord _ (Nat.le_of_ble_eq_true rfl) _ _ h) (lq_X10 _) cv_X10_isAtWord ml_X3_44 (by decide) (lm (by decide)) (fun R => ⟨_, cel_1 tc ad R⟩) rfl rfl rfl (Nat.le_of_ble_eq_true rfl) ⟨Nat.le_of_ble_eq_true rfl, Nat.le_of_ble_eq_true rfl⟩ ⟨Nat.zero_le _, Nat.zero_le _⟩ dX3_parseOrders_11 (fun r3 M2 h => ?_)
      obtain ⟨b4, h⟩ := h
      refine ra_if_eq (tgt := 42) E dX3_parseOrders_14 (by decide) (fun q5 => ?_) (fun q5 => ?_)
      · replace h := h.1 q5
        exact ra_vret E hr dX3_parseOrders_42 h
      · replace h := h.2 q5
        refine ra_iload_n E dX3_parseOrders_17 rfl 2 rfl ?_
        refine ra_bipush E dX3_parseOrders_18 kb_30 ?_
        refine ra_icmp_ne (tgt := 31) E dX3_parseOrders_20 (by decide) (fun q6 => ?_) (fun q6 => ?_)
        · replace h := h.1 q6
          refine ra_aload_n E dX3_parseOrders_31 rfl 0 rfl ?_
          refine ra_aload_n E dX3_parseOrders_32 rfl 1 rfl ?_
          refine ra_callVS (rest := []) E (c_X3_parseOrder _ h1 _ _ h) (lq_X3 _) ct_X3_parseOrder ml_X3_100 (by decide) rfl rfl (Nat.le_of_ble_eq_true rfl) ⟨Nat.le_of_ble_eq_true rfl, Nat.le_of_ble_eq_true rfl⟩ ⟨Nat.zero_le _, Nat.zero_le _⟩ dX3_parseOrders_33 (fun M7 h => ?_)
          refine ra_iinc1 (L' := [(2, _), (0, _), (1, _)]) E dX3_parseOrders_36 2 rfl (by decide) rfl ?_
          refine ra_goto (tgt := 2) E dX3_parseOrders_39 (by decide) ?_
          exact ra_sub (L' := [(0, _), (1, _), (2, _)]) [1, 2, 0] rfl (ih _ _ h)
        · replace h := h.2 q6
          refine ra_aload_n E dX3_parseOrders_23 rfl 0 rfl ?_
          refine ra_iconst E dX3_parseOrders_24 ki_4 ?_
          refine ra_callVV (rest := []) E (c_X10_fail _ _ _ h) (lq_X10 _) cv_X10_fail ml_X3_88 (by decide) (lm (by decide)) (fun R => ⟨_, cel_1 tc ad R⟩) rfl rfl rfl (Nat.le_of_ble_eq_true rfl) ⟨Nat.le_of_ble_eq_true rfl, Nat.le_of_ble_eq_true rfl⟩ ⟨Nat.zero_le _, Nat.zero_le _⟩ dX3_parseOrders_25 (fun M8 h => ?_)
          refine ra_goto (tgt := 36) E dX3_parseOrders_28 (by decide) ?_
          refine ra_iinc1 (L' := [(2, _), (0, _), (1, _)]) E dX3_parseOrders_36 2 rfl (by decide) rfl ?_
          refine ra_goto (tgt := 2) E dX3_parseOrders_39 (by decide) ?_
          exact ra_sub (L' := [(0, _), (1, _), (2, _)]) [1, 2, 0] rfl (ih _ _ h)
def f_X3_parseOrders (a1 : Nat) (M : TM) (K : TM → Prop) : Prop := ∃ n, f_X3_parseOrders_L2 a1 K n (0 : Int32) M
set_option maxRecDepth 100000 in
set_option maxHeartbeats 4000000 in
theorem c_X3_parseOrders {ad : Nat → Nat} (a1 : Nat) (h1 : IsCanal a1) (M : TM) (K : TM → Prop) (h : f_X3_parseOrders a1 M K) : MV yX3_parseOrders cX3_parseOrders 3 5 ad [.ref (ad 1), .ref (ad a1)] M K := by
  refine MV_of RX3 rfl (by decide +kernel) (Nat.le_of_ble_eq_true rfl) (fun p l e s m below meth c D tc E hr => ?_)
  unfold f_X3_parseOrders at h
  refine ra_iconst E dX3_parseOrders_0 ki_0 ?_
  refine ra_istore_n (L' := [(2, _), (0, _), (1, _)]) E dX3_parseOrders_1 rfl (by decide) rfl ?_
  obtain ⟨n9, h⟩ := h
  exact ra_sub (L' := [(0, _), (1, _), (2, _)]) [1, 2, 0] rfl (l_X3_parseOrders_L2 a1 h1 E hr n9 _ _ h)
def f_X8_verbAt_L2  (K : Option Nat → TM → Prop) : Nat → Int32 → TM → Prop
  | 0, _, _ => False
  | n + 1, x1, M => (((9 : Int32) ≤ x1 → K none M) ∧ (¬ (9 : Int32) ≤ x1 → vp_in x1 9 ∧ f_X10_isAtWord (x1.toNatClampNeg) M (fun r4 M3 => ((r4 = 0 → f_X8_verbAt_L2 K n (x1 + 1) M3) ∧ (¬ r4 = 0 → vp_in x1 9 ∧ K (some (2100 + x1.toNatClampNeg)) M3)))))
set_option maxRecDepth 100000 in
set_option maxHeartbeats 4000000 in
theorem l_X8_verbAt_L2 {p : Program} {l : Launch} {e : Env} {s : State} {m : MethodId} {args : Array Value} {below : List Frame} {meth : Method} {c : Code} {D : va_G} {tc : Nat → ClassId} {ad : Nat → Nat}  {K : Option Nat → TM → Prop} (E : Ev p s m args meth c D tc ad RX8 cX8_verbAt 2) (hr : meth.sig.returnType = (some (.object "NoodleCanal$Verb"))) : ∀ (n : Nat) (x1 : Int32) (M : TM) , f_X8_verbAt_L2  K n x1 M → Wa p l e (rmD 5) s m args below meth c 0 0 (MQ below (va_QA K D tc ad (A0 ad s.heap.size)) args s 0 0 (A0 ad s.heap.size)) D tc ad 2 M 2 [(0, .ref (ad 1)), (1, .int x1)] [] := by
  intro n
  induction n with
  | zero => intro x1 M  h; exact h.elim
  | succ n ih =>
    intro x1 M  h
    unfold f_X8_verbAt_L2 at h
    refine ra_iload_n E dX8_verbAt_2 rfl 1 rfl ?_
    refine gs_verbs E rfl dX8_verbAt_3 ?_
    refine al_verbs E dX8_verbAt_6 ?_
    refine ra_icmp_ge (tgt := 37) E dX8_verbAt_7 (by decide) (fun q1 => ?_) (fun q1 => ?_)
    · replace h := h.1 q1
      refine ra_null E dX8_verbAt_37 ?_
      exact ra_aret (o := none) E hr dX8_verbAt_38 h
    · replace h := h.2 q1
      refine ra_aload_n E dX8_verbAt_10 rfl 0 rfl ?_
      refine gs_verbs E rfl dX8_verbAt_11 ?_
      refine ra_iload_n E dX8_verbAt_14 rfl 1 rfl ?_
      obtain ⟨g2, h⟩ := h
      refine aa_verbs E g2 dX8_verbAt_15 ?_
      refine gf_word E g2 fl_X8_77 dX8_verbAt_16 ?_
      refine ra_callIV (rest := []) E (c_X10_isAtWord _ (Nat.lt_of_lt_of_le (vp_lt g2) (by decide)) _ _ h) (lq_X10 _) cv_X10_isAtWord ml_X8_81 (by decide) (lm (by decide)) (fun R => ⟨_, cel_1 tc ad R⟩) rfl rfl rfl (Nat.le_of_ble_eq_true rfl) ⟨Nat.le_of_ble_eq_true rfl, Nat.le_of_ble_eq_true rfl⟩ ⟨Nat.zero_le _, Nat.zero_le _⟩ dX8_verbAt_19 (fun r4 M3 h => ?_)
      obtain ⟨b5, h⟩ := h
      refine ra_if_eq (tgt := 31) E dX8_verbAt_22 (by decide) (fun q6 => ?_) (fun q6 => ?_)
      · replace h := h.1 q6
        refine ra_iinc1 (L' := [(1, _), (0, _)]) E dX8_verbAt_31 1 rfl (by decide) rfl ?_
        refine ra_goto (tgt := 2) E dX8_verbAt_34 (by decide) ?_
        exact ra_sub (L' := [(0, _), (1, _)]) [1, 0] rfl (ih _ _ h)
      · replace h := h.2 q6
        refine gs_verbs E rfl dX8_verbAt_25 ?_
        refine ra_iload_n E dX8_verbAt_28 rfl 1 rfl ?_
        obtain ⟨g7, h⟩ := h
        refine aa_verbs E g7 dX8_verbAt_29 ?_
        exact ra_aret (o := (some (2100 + x1.toNatClampNeg))) E hr dX8_verbAt_30 h
def f_X8_verbAt  (M : TM) (K : Option Nat → TM → Prop) : Prop := ∃ n, f_X8_verbAt_L2 K n (0 : Int32) M
set_option maxRecDepth 100000 in
set_option maxHeartbeats 4000000 in
theorem c_X8_verbAt {ad : Nat → Nat}  (M : TM) (K : Option Nat → TM → Prop) (h : f_X8_verbAt  M K) : MA yX8_verbAt cX8_verbAt 2 (some (.object "NoodleCanal$Verb")) 5 ad [.ref (ad 1)] M K := by
  refine MA_of RX8 rfl (by decide +kernel) (Nat.le_of_ble_eq_true rfl) (fun p l e s m below meth c D tc E hr => ?_)
  unfold f_X8_verbAt at h
  refine ra_iconst E dX8_verbAt_0 ki_0 ?_
  refine ra_istore_n (L' := [(1, _), (0, _)]) E dX8_verbAt_1 rfl (by decide) rfl ?_
  obtain ⟨n8, h⟩ := h
  exact ra_sub (L' := [(0, _), (1, _)]) [1, 0] rfl (l_X8_verbAt_L2 E hr n8 _ _ h)
def f_X8_executeOn (a1 : Nat) (M : TM) (K : Int32 → TM → Prop) : Prop := ∀ M1, M1 = u2 M 3 2 (0 : Int32) → f_X8_executeBlockC a1 (0 : Int32) (M1 3 1) (0 : Int32) M1 (fun r3 M2 => K (M2 3 2) M2)
set_option maxRecDepth 100000 in
set_option maxHeartbeats 4000000 in
theorem c_X8_executeOn {ad : Nat → Nat} (a1 : Nat) (h1 : IsCanal a1) (M : TM) (K : Int32 → TM → Prop) (h : f_X8_executeOn a1 M K) : MI yX8_executeOn cX8_executeOn 2 (some .int) 12 ad [.ref (ad 3), .ref (ad a1)] M K := by
  refine MI_of RX8 rfl (by decide +kernel) (Nat.le_of_ble_eq_true rfl) (fun p l e s m below meth c D tc E hr => ?_)
  unfold f_X8_executeOn at h
  refine ra_aload_n E dX8_executeOn_0 rfl 0 rfl ?_
  refine ra_iconst E dX8_executeOn_1 ki_0 ?_
  refine pf_X8_2 E fl_X8_21 dX8_executeOn_2 ?_
  replace h := h _ rfl
  refine ra_aload_n E dX8_executeOn_5 rfl 0 rfl ?_
  refine ra_aload_n E dX8_executeOn_6 rfl 1 rfl ?_
  refine ra_iconst E dX8_executeOn_7 ki_0 ?_
  refine ra_aload_n E dX8_executeOn_8 rfl 0 rfl ?_
  refine gf_X8_1 E fl_X8_17 dX8_executeOn_9 ?_
  refine ra_iconst E dX8_executeOn_12 ki_0 ?_
  refine ra_callIV (rest := []) E (c_X8_executeBlockC _ h1 _ _ _ _ _ h) (lq_X8 _) cv_X8_executeBlock ml_X8_111 (by decide) (lm (by decide)) (fun R => ⟨_, cel_3 tc ad R⟩) rfl rfl rfl (Nat.le_of_ble_eq_true rfl) ⟨Nat.le_of_ble_eq_true rfl, Nat.le_of_ble_eq_true rfl⟩ ⟨Nat.zero_le _, Nat.zero_le _⟩ dX8_executeOn_13 (fun r3 M2 h => ?_)
  obtain ⟨b4, h⟩ := h
  refine ra_pop E dX8_executeOn_16 rfl ?_
  refine ra_aload_n E dX8_executeOn_17 rfl 0 rfl ?_
  refine gf_X8_2 E fl_X8_21 dX8_executeOn_18 ?_
  exact ra_iret E hr dX8_executeOn_21 h
def f_X8_parseBlock_L3 (fc : Int32 → TM → (TM → Prop) → Prop) (p2 : Int32) (p3 : Int32) (K : TM → Prop) : Nat → Int32 → Int32 → Int32 → TM → Prop
  | 0, _, _, _, _ => False
  | n + 1, x2, x3, x4, M => (((20 : Int32) < x4 → K M) ∧ (¬ (20 : Int32) < x4 → f_X10_isAt x2 M (fun r3 M2 => ((¬ r3 = 0 → K M2) ∧ (r3 = 0 → f_X10_failed M2 (fun r7 M6 => ((¬ r7 = 0 → K M6) ∧ (r7 = 0 → fc x3 M6 (fun M10 => f_X10_readToken (5 : Int32) M10 (fun M11 => f_X8_parseBlock_L3 fc p2 p3 K n x2 x3 (x4 + 1) M11))))))))))
set_option maxRecDepth 100000 in
set_option maxHeartbeats 4000000 in
theorem l_X8_parseBlock_L3 {p : Program} {l : Launch} {e : Env} {s : State} {m : MethodId} {args : Array Value} {below : List Frame} {meth : Method} {c : Code} {D : va_G} {tc : Nat → ClassId} {ad : Nat → Nat} (fc : Int32 → TM → (TM → Prop) → Prop) (dd : Nat) (hd : 5 ≤ dd) (hfc : ∀ (p2 : Int32) (M : TM) (K : TM → Prop), fc p2 M K → MV yX8_parseCommand cX8_parseCommand 5 dd ad [.ref (ad 3), .ref (ad 1), .int p2] M K) (p2 : Int32) (p3 : Int32) {K : TM → Prop} (E : Ev p s m args meth c D tc ad RX8 cX8_parseBlock 5) (hr : meth.sig.returnType = none) : ∀ (n : Nat) (x2 : Int32) (x3 : Int32) (x4 : Int32) (M : TM) , f_X8_parseBlock_L3 fc p2 p3 K n x2 x3 x4 M → Wa p l e (rmD (dd + 1)) s m args below meth c 0 0 (MQ below (va_Qv K (EndW D tc ad) (A0 ad s.heap.size)) args s 0 0 (A0 ad s.heap.size)) D tc ad 5 M 3 [(0, .ref (ad 3)), (1, .ref (ad 1)), (2, .int x2), (3, .int x3), (4, .int x4)] [] := by
  intro n
  induction n with
  | zero => intro x2 x3 x4 M  h; exact h.elim
  | succ n ih =>
    intro x2 x3 x4 M  h
    unfold f_X8_parseBlock_L3 at h
    refine ra_iload E dX8_parseBlock_3 4 rfl ?_
    refine ra_bipush E dX8_parseBlock_5 kb_20 ?_
    refine ra_icmp_gt (tgt := 42) E dX8_parseBlock_7 (by decide) (fun q1 => ?_) (fun q1 => ?_)
    · replace h := h.1 q1
      exact ra_vret E hr dX8_parseBlock_42 h
    · replace h := h.2 q1
      refine ra_aload_n E dX8_parseBlock_10 rfl 1 rfl ?_
      refine ra_iload_n E dX8_parseBlock_11 rfl 2 rfl ?_
      refine ra_callIV (rest := []) E (c_X10_isAt _ _ _ h) (lq_X10 _) cv_X10_isAt ml_X8_31 (by decide) (lm (by decide)) (fun R => ⟨_, cel_1 tc ad R⟩) rfl rfl rfl (Nat.le_of_ble_eq_true rfl) (rR hd (Nat.le_of_ble_eq_true rfl)) ⟨Nat.zero_le _, Nat.zero_le _⟩ dX8_parseBlock_12 (fun r3 M2 h => ?_)
      obtain ⟨b4, h⟩ := h
      refine ra_if_ne (tgt := 42) E dX8_parseBlock_15 (by decide) (fun q5 => ?_) (fun q5 => ?_)
      · replace h := h.1 q5
        exact ra_vret E hr dX8_parseBlock_42 h
      · replace h := h.2 q5
        refine ra_aload_n E dX8_parseBlock_18 rfl 1 rfl ?_
        refine ra_callIV (rest := []) E (c_X10_failed _ _ h) (lq_X10 _) cv_X10_failed ml_X8_35 (by decide) (lm (by decide)) (fun R => ⟨_, cel_1 tc ad R⟩) rfl rfl rfl (Nat.le_of_ble_eq_true rfl) (rR hd (Nat.le_of_ble_eq_true rfl)) ⟨Nat.zero_le _, Nat.zero_le _⟩ dX8_parseBlock_19 (fun r7 M6 h => ?_)
        obtain ⟨b8, h⟩ := h
        refine ra_if_ne (tgt := 42) E dX8_parseBlock_22 (by decide) (fun q9 => ?_) (fun q9 => ?_)
        · replace h := h.1 q9
          exact ra_vret E hr dX8_parseBlock_42 h
        · replace h := h.2 q9
          refine ra_aload_n E dX8_parseBlock_25 rfl 0 rfl ?_
          refine ra_aload_n E dX8_parseBlock_26 rfl 1 rfl ?_
          refine ra_iload_n E dX8_parseBlock_27 rfl 3 rfl ?_
          refine ra_callVV (rest := []) E (hfc _ _ _ h) (lq_X8 _) cv_X8_parseCommand ml_X8_39 (by decide) (lm (by decide)) (fun R => ⟨_, cel_3 tc ad R⟩) rfl rfl rfl (Nat.le_of_ble_eq_true rfl) ⟨Nat.le_refl _, Nat.le_refl _⟩ ⟨Nat.zero_le _, Nat.zero_le _⟩ dX8_parseBlock_28 (fun M10 h => ?_)
          refine ra_aload_n E dX8_parseBlock_31 rfl 1 rfl ?_
          refine ra_iconst E dX8_parseBlock_32 ki_5 ?_
          refine ra_callVV (rest := []) E (c_X10_readToken _ _ _ h) (lq_X10 _) cv_X10_readToken ml_X8_43 (by decide) (lm (by decide)) (fun R => ⟨_, cel_1 tc ad R⟩) rfl rfl rfl (Nat.le_of_ble_eq_true rfl) (rR hd (Nat.le_of_ble_eq_true rfl)) ⟨Nat.zero_le _, Nat.zero_le _⟩ dX8_parseBlock_33 (fun M11 h => ?_)
          refine ra_iinc1 (L' := [(4, _), (0, _), (1, _), (2, _), (3, _)]) E dX8_parseBlock_36 4 rfl (by decide) rfl ?_
          refine ra_goto (tgt := 3) E dX8_parseBlock_39 (by decide) ?_
          exact ra_sub (L' := [(0, _), (1, _), (2, _), (3, _), (4, _)]) [1, 2, 3, 4, 0] rfl (ih _ _ _ _ h)
def f_X8_parseBlock (fc : Int32 → TM → (TM → Prop) → Prop) (p2 : Int32) (p3 : Int32) (M : TM) (K : TM → Prop) : Prop := ∃ n, f_X8_parseBlock_L3 fc p2 p3 K n p2 p3 (0 : Int32) M
set_option maxRecDepth 100000 in
set_option maxHeartbeats 4000000 in
theorem c_X8_parseBlock {ad : Nat → Nat} (fc : Int32 → TM → (TM → Prop) → Prop) (dd : Nat) (hd : 5 ≤ dd) (hfc : ∀ (p2 : Int32) (M : TM) (K : TM → Prop), fc p2 M K → MV yX8_parseCommand cX8_parseCommand 5 dd ad [.ref (ad 3), .ref (ad 1), .int p2] M K) (p2 : Int32) (p3 : Int32) (M : TM) (K : TM → Prop) (h : f_X8_parseBlock fc p2 p3 M K) : MV yX8_parseBlock cX8_parseBlock 5 (dd + 1) ad [.ref (ad 3), .ref (ad 1), .int p2, .int p3] M K := by
  refine MV_of RX8 rfl (by decide +kernel) (Nat.le_of_ble_eq_true rfl) (fun p l e s m below meth c D tc E hr => ?_)
  unfold f_X8_parseBlock at h
  refine ra_iconst E dX8_parseBlock_0 ki_0 ?_
  refine ra_istore (L' := [(4, _), (0, _), (1, _), (2, _), (3, _)]) E dX8_parseBlock_1 (by decide) rfl ?_
  obtain ⟨n12, h⟩ := h
  exact ra_sub (L' := [(0, _), (1, _), (2, _), (3, _), (4, _)]) [1, 2, 3, 4, 0] rfl (l_X8_parseBlock_L3 fc dd hd hfc p2 p3 E hr n12 _ _ _ _ h)
def f_X8_parseCommand_L45 (fc : Int32 → Int32 → TM → (TM → Prop) → Prop) (p2 : Int32) (K : TM → Prop) (x2 : Int32) (x3 : Int32) (M : TM) : Prop := f_X10_advance M (fun M12 => vp_in (M12 3 1) 20 ∧ ∀ M14, M14 = u2 M12 3 1 ((M12 3 1) + (1 : Int32)) → ∀ M15, M15 = u2 M14 (5 + (M12 3 1).toNatClampNeg) 0 x3 → f_X8_parseNumbers (5 + (M12 3 1).toNatClampNeg) M15 (fun M16 => vp_in x3 9 ∧ ((¬ x3 = (8 : Int32) → ∀ M19, M19 = u2 M16 (5 + (M12 3 1).toNatClampNeg) 5 (M16 3 1) → K M19) ∧ (x3 = (8 : Int32) → f_X10_readToken (6 : Int32) M16 (fun M20 => fc (7 : Int32) (x2 + (1 : Int32)) M20 (fun M21 => f_X10_readToken (7 : Int32) M21 (fun M22 => ∀ M23, M23 = u2 M22 (5 + (M12 3 1).toNatClampNeg) 5 (M22 3 1) → K M23)))))))
set_option maxRecDepth 100000 in
set_option maxHeartbeats 4000000 in
theorem l_X8_parseCommand_L45 {p : Program} {l : Launch} {e : Env} {s : State} {m : MethodId} {args : Array Value} {below : List Frame} {meth : Method} {c : Code} {D : va_G} {tc : Nat → ClassId} {ad : Nat → Nat} (fc : Int32 → Int32 → TM → (TM → Prop) → Prop) (dd : Nat) (hd : 5 ≤ dd) (hfc : ∀ (p2 : Int32) (p3 : Int32) (M : TM) (K : TM → Prop), fc p2 p3 M K → MV yX8_parseBlock cX8_parseBlock 5 dd ad [.ref (ad 3), .ref (ad 1), .int p2, .int p3] M K) (p2 : Int32) {K : TM → Prop} (E : Ev p s m args meth c D tc ad RX8 cX8_parseCommand 5) (hr : meth.sig.returnType = none) : ∀ (x2 : Int32) (x3 : Int32) (M : TM) , f_X8_parseCommand_L45 fc p2 K x2 x3 M → Wa p l e (rmD (dd + 1)) s m args below meth c 0 0 (MQ below (va_Qv K (EndW D tc ad) (A0 ad s.heap.size)) args s 0 0 (A0 ad s.heap.size)) D tc ad 5 M 45 [(0, .ref (ad 3)), (1, .ref (ad 1)), (2, .int x2), (3, .ref (ad (2100 + x3.toNatClampNeg)))] [] := by
  intro x2 x3 M  h
  unfold f_X8_parseCommand_L45 at h
  refine ra_aload_n E dX8_parseCommand_45 rfl 1 rfl ?_
  refine ra_callVV (rest := []) E (c_X10_advance _ _ h) (lq_X10 _) cv_X10_advance ml_X8_60 (by decide) (lm (by decide)) (fun R => ⟨_, cel_1 tc ad R⟩) rfl rfl rfl (Nat.le_of_ble_eq_true rfl) (rR hd (Nat.le_of_ble_eq_true rfl)) ⟨Nat.zero_le _, Nat.zero_le _⟩ dX8_parseCommand_46 (fun M12 h => ?_)
  refine ra_aload_n E dX8_parseCommand_49 rfl 0 rfl ?_
  refine gf_X8_0 E fl_X8_11 dX8_parseCommand_50 ?_
  refine ra_aload_n E dX8_parseCommand_53 rfl 0 rfl ?_
  refine gf_X8_1 E fl_X8_17 dX8_parseCommand_54 ?_
  obtain ⟨g13, h⟩ := h
  refine ra_aald E (lm (by decide)) (cel_4 tc ad) rfl g13 dX8_parseCommand_57 ?_
  refine ra_astore (L' := [(4, _), (0, _), (1, _), (2, _), (3, _)]) E dX8_parseCommand_58 (by decide) rfl ?_
  refine ra_aload_n E dX8_parseCommand_60 rfl 1 rfl ?_
  refine ra_dup E dX8_parseCommand_61 rfl ?_
  refine gf_X8_1 E fl_X8_17 dX8_parseCommand_62 ?_
  refine ra_iconst E dX8_parseCommand_65 ki_1 ?_
  refine ra_iadd E dX8_parseCommand_66 ?_
  refine pf_X8_1 E fl_X8_17 dX8_parseCommand_67 ?_
  replace h := h _ rfl
  refine ra_aload E dX8_parseCommand_70 0 rfl ?_
  refine ra_aload_n E dX8_parseCommand_72 rfl 4 rfl ?_
  refine pf_X4_0 E (isCmd_of g13) _ rfl fl_X8_63 dX8_parseCommand_73 ?_
  replace h := h _ rfl
  refine ra_aload_n E dX8_parseCommand_76 rfl 2 rfl ?_
  refine ra_aload E dX8_parseCommand_77 0 rfl ?_
  refine ra_callVS (rest := []) E (c_X8_parseNumbers _ (isCmd_of g13) _ _ h) (lq_X8 _) ct_X8_parseNumbers ml_X8_66 (by decide) rfl rfl (Nat.le_of_ble_eq_true rfl) (rR hd (Nat.le_of_ble_eq_true rfl)) ⟨Nat.zero_le _, Nat.zero_le _⟩ dX8_parseCommand_79 (fun M16 h => ?_)
  refine ra_aload_n E dX8_parseCommand_82 rfl 4 rfl ?_
  refine gs_V (i := 8) E 8 (by decide) rfl (by decide) fl_X8_54 dX8_parseCommand_83 ?_
  obtain ⟨g18, h⟩ := h
  refine acmpV_ne (tgt := 111) E g18 (vpl _ _ (by decide)) dX8_parseCommand_86 (by decide) (fun q17 => ?_) (fun q17 => ?_)
  · replace h := h.1 q17
    refine ra_aload E dX8_parseCommand_111 0 rfl ?_
    refine ra_aload_n E dX8_parseCommand_113 rfl 1 rfl ?_
    refine gf_X8_1 E fl_X8_17 dX8_parseCommand_114 ?_
    refine pf_X4_5 E (isCmd_of g13) fl_X8_70 dX8_parseCommand_117 ?_
    replace h := h _ rfl
    exact ra_vret E hr dX8_parseCommand_120 h
  · replace h := h.2 q17
    refine ra_aload_n E dX8_parseCommand_89 rfl 2 rfl ?_
    refine ra_bipush E dX8_parseCommand_90 kb_6 ?_
    refine ra_callVV (rest := []) E (c_X10_readToken _ _ _ h) (lq_X10 _) cv_X10_readToken ml_X8_43 (by decide) (lm (by decide)) (fun R => ⟨_, cel_1 tc ad R⟩) rfl rfl rfl (Nat.le_of_ble_eq_true rfl) (rR hd (Nat.le_of_ble_eq_true rfl)) ⟨Nat.zero_le _, Nat.zero_le _⟩ dX8_parseCommand_92 (fun M20 h => ?_)
    refine ra_aload_n E dX8_parseCommand_95 rfl 1 rfl ?_
    refine ra_aload_n E dX8_parseCommand_96 rfl 2 rfl ?_
    refine ra_bipush E dX8_parseCommand_97 kb_7 ?_
    refine ra_iload_n E dX8_parseCommand_99 rfl 3 rfl ?_
    refine ra_iconst E dX8_parseCommand_100 ki_1 ?_
    refine ra_iadd E dX8_parseCommand_101 ?_
    refine ra_callVV (rest := []) E (hfc _ _ _ _ h) (lq_X8 _) cv_X8_parseBlock ml_X8_27 (by decide) (lm (by decide)) (fun R => ⟨_, cel_3 tc ad R⟩) rfl rfl rfl (Nat.le_of_ble_eq_true rfl) ⟨Nat.le_refl _, Nat.le_refl _⟩ ⟨Nat.zero_le _, Nat.zero_le _⟩ dX8_parseCommand_102 (fun M21 h => ?_)
    refine ra_aload_n E dX8_parseCommand_105 rfl 2 rfl ?_
    refine ra_bipush E dX8_parseCommand_106 kb_7 ?_
    refine ra_callVV (rest := []) E (c_X10_readToken _ _ _ h) (lq_X10 _) cv_X10_readToken ml_X8_43 (by decide) (lm (by decide)) (fun R => ⟨_, cel_1 tc ad R⟩) rfl rfl rfl (Nat.le_of_ble_eq_true rfl) (rR hd (Nat.le_of_ble_eq_true rfl)) ⟨Nat.zero_le _, Nat.zero_le _⟩ dX8_parseCommand_108 (fun M22 h => ?_)
    refine ra_aload E dX8_parseCommand_111 0 rfl ?_
    refine ra_aload_n E dX8_parseCommand_113 rfl 1 rfl ?_
    refine gf_X8_1 E fl_X8_17 dX8_parseCommand_114 ?_
    refine pf_X4_5 E (isCmd_of g13) fl_X8_70 dX8_parseCommand_117 ?_
    replace h := h _ rfl
    exact ra_vret E hr dX8_parseCommand_120 h
def f_X8_parseCommand (fc : Int32 → Int32 → TM → (TM → Prop) → Prop) (p2 : Int32) (M : TM) (K : TM → Prop) : Prop := f_X8_verbAt M (fun o2 M1 => (o2 = none ∨ ∃ x3, vp_in x3 9 ∧ o2 = some (2100 + x3.toNatClampNeg)) ∧ (o2 = none → f_X10_fail (1 : Int32) M1 (fun M8 => K M8)) ∧ (∀ x3, vp_in x3 9 → o2 = some (2100 + x3.toNatClampNeg) → (((20 : Int32) ≤ (M1 3 1) → f_X10_fail (4 : Int32) M1 (fun M10 => K M10)) ∧ (¬ (20 : Int32) ≤ (M1 3 1) → ((¬ x3 = (8 : Int32) → f_X8_parseCommand_L45 fc p2 K p2 x3 M1) ∧ (x3 = (8 : Int32) → ((p2 < (2 : Int32) → f_X8_parseCommand_L45 fc p2 K p2 x3 M1) ∧ (¬ p2 < (2 : Int32) → f_X10_fail (4 : Int32) M1 (fun M25 => K M25)))))))))
set_option maxRecDepth 100000 in
set_option maxHeartbeats 4000000 in
theorem c_X8_parseCommand {ad : Nat → Nat} (fc : Int32 → Int32 → TM → (TM → Prop) → Prop) (dd : Nat) (hd : 5 ≤ dd) (hfc : ∀ (p2 : Int32) (p3 : Int32) (M : TM) (K : TM → Prop), fc p2 p3 M K → MV yX8_parseBlock cX8_parseBlock 5 dd ad [.ref (ad 3), .ref (ad 1), .int p2, .int p3] M K) (p2 : Int32) (M : TM) (K : TM → Prop) (h : f_X8_parseCommand fc p2 M K) : MV yX8_parseCommand cX8_parseCommand 5 (dd + 1) ad [.ref (ad 3), .ref (ad 1), .int p2] M K := by
  refine MV_of RX8 rfl (by decide +kernel) (Nat.le_of_ble_eq_true rfl) (fun p l e s m below meth c D tc E hr => ?_)
  unfold f_X8_parseCommand at h
  refine ra_aload_n E dX8_parseCommand_0 rfl 1 rfl ?_
  refine ra_callAS (rest := []) E (c_X8_verbAt _ _ h) (lq_X8 _) ct_X8_verbAt ml_X8_47 (by decide) rfl rfl (Nat.le_of_ble_eq_true rfl) (rR hd (Nat.le_of_ble_eq_true rfl)) ⟨Nat.zero_le _, Nat.zero_le _⟩ dX8_parseCommand_1 (fun o2 M1 h => ?_)
  obtain ⟨q5, q6, q7⟩ := h
  rcases q5 with q5 | ⟨x3, g4, q5⟩
  · replace h := q6 q5
    subst q5
    refine ra_astore_nN (L' := [(3, _), (0, _), (1, _), (2, _)]) E dX8_parseCommand_4 rfl (by decide) rfl ?_
    refine ra_aload_nN E dX8_parseCommand_5 rfl 0 rfl ?_
    refine ra_ifnonnullN E dX8_parseCommand_6 ?_
    refine ra_aload_n E dX8_parseCommand_9 rfl 2 rfl ?_
    refine ra_iconst E dX8_parseCommand_10 ki_1 ?_
    refine ra_callVV (rest := []) E (c_X10_fail _ _ _ h) (lq_X10 _) cv_X10_fail ml_X8_51 (by decide) (lm (by decide)) (fun R => ⟨_, cel_1 tc ad R⟩) rfl rfl rfl (Nat.le_of_ble_eq_true rfl) (rR hd (Nat.le_of_ble_eq_true rfl)) ⟨Nat.zero_le _, Nat.zero_le _⟩ dX8_parseCommand_11 (fun M8 h => ?_)
    exact ra_vret E hr dX8_parseCommand_14 h
  · replace h := q7 x3 g4 q5
    subst q5
    refine ra_astore_n (L' := [(3, _), (0, _), (1, _), (2, _)]) E dX8_parseCommand_4 rfl (by decide) rfl ?_
    refine ra_aload_n E dX8_parseCommand_5 rfl 0 rfl ?_
    refine ra_ifnonnull (tgt := 15) E dX8_parseCommand_6 (by decide) ?_
    refine ra_aload_n E dX8_parseCommand_15 rfl 1 rfl ?_
    refine gf_X8_1 E fl_X8_17 dX8_parseCommand_16 ?_
    refine ra_aload_n E dX8_parseCommand_19 rfl 1 rfl ?_
    refine gf_X8_0 E fl_X8_11 dX8_parseCommand_20 ?_
    refine ra_alen (n := 20) (v := 20) E (lm (by decide)) (fun R => ⟨_, (cel_4 tc ad) R, rfl⟩) rfl (by decide) dX8_parseCommand_23 ?_
    refine ra_icmp_ge (tgt := 39) E dX8_parseCommand_24 (by decide) (fun q9 => ?_) (fun q9 => ?_)
    · replace h := h.1 q9
      refine ra_aload_n E dX8_parseCommand_39 rfl 2 rfl ?_
      refine ra_iconst E dX8_parseCommand_40 ki_4 ?_
      refine ra_callVV (rest := []) E (c_X10_fail _ _ _ h) (lq_X10 _) cv_X10_fail ml_X8_51 (by decide) (lm (by decide)) (fun R => ⟨_, cel_1 tc ad R⟩) rfl rfl rfl (Nat.le_of_ble_eq_true rfl) (rR hd (Nat.le_of_ble_eq_true rfl)) ⟨Nat.zero_le _, Nat.zero_le _⟩ dX8_parseCommand_41 (fun M10 h => ?_)
      exact ra_vret E hr dX8_parseCommand_44 h
    · replace h := h.2 q9
      refine ra_aload_n E dX8_parseCommand_27 rfl 0 rfl ?_
      refine gs_V (i := 8) E 8 (by decide) rfl (by decide) fl_X8_54 dX8_parseCommand_28 ?_
      refine acmpV_ne (tgt := 45) E g4 (vpl _ _ (by decide)) dX8_parseCommand_31 (by decide) (fun q11 => ?_) (fun q11 => ?_)
      · replace h := h.1 q11
        exact ra_sub (L' := [(0, _), (1, _), (2, _), (3, _)]) [1, 2, 3, 0] rfl (l_X8_parseCommand_L45 fc dd hd hfc p2 E hr _ _ _ h)
      · replace h := h.2 q11
        refine ra_iload_n E dX8_parseCommand_34 rfl 3 rfl ?_
        refine ra_iconst E dX8_parseCommand_35 ki_2 ?_
        refine ra_icmp_lt (tgt := 45) E dX8_parseCommand_36 (by decide) (fun q24 => ?_) (fun q24 => ?_)
        · replace h := h.1 q24
          exact ra_sub (L' := [(0, _), (1, _), (2, _), (3, _)]) [1, 2, 3, 0] rfl (l_X8_parseCommand_L45 fc dd hd hfc p2 E hr _ _ _ h)
        · replace h := h.2 q24
          refine ra_aload_n E dX8_parseCommand_39 rfl 2 rfl ?_
          refine ra_iconst E dX8_parseCommand_40 ki_4 ?_
          refine ra_callVV (rest := []) E (c_X10_fail _ _ _ h) (lq_X10 _) cv_X10_fail ml_X8_51 (by decide) (lm (by decide)) (fun R => ⟨_, cel_1 tc ad R⟩) rfl rfl rfl (Nat.le_of_ble_eq_true rfl) (rR hd (Nat.le_of_ble_eq_true rfl)) ⟨Nat.zero_le _, Nat.zero_le _⟩ dX8_parseCommand_41 (fun M25 h => ?_)
          exact ra_vret E hr dX8_parseCommand_44 h
def f_X8_parseCommandR : Nat → Int32 → TM → (TM → Prop) → Prop
  | 0 => fun _ _ _ => False
  | k + 1 => fun p2 M K => f_X8_parseCommand (fun p2 p3 M K => f_X8_parseBlock (f_X8_parseCommandR k) p2 p3 M K) p2 M K
theorem c_X8_parseCommandR {ad : Nat → Nat} : ∀ (k : Nat) (p2 : Int32) (M : TM) (K : TM → Prop), f_X8_parseCommandR k p2 M K → MV yX8_parseCommand cX8_parseCommand 5 (5 + 2 * k) ad [.ref (ad 3), .ref (ad 1), .int p2] M K := by
  intro k
  induction k with
  | zero => intro p2 M K h; exact h.elim
  | succ k ih => intro p2 M K h; exact c_X8_parseCommand (fun p2 p3 M K => f_X8_parseBlock (f_X8_parseCommandR k) p2 p3 M K) (5 + 2 * k + 1) (by omega) (fun p2 p3 M K h => c_X8_parseBlock (f_X8_parseCommandR k) (5 + 2 * k) (by omega) ih p2 p3 M K h) p2 M K h
def f_X8_parseBlockC (p2 : Int32) (p3 : Int32) (M : TM) (K : TM → Prop) : Prop := f_X8_parseBlock (f_X8_parseCommandR 3) p2 p3 M K
theorem c_X8_parseBlockC {ad : Nat → Nat} (p2 : Int32) (p3 : Int32) (M : TM) (K : TM → Prop) (h : f_X8_parseBlockC p2 p3 M K) : MV yX8_parseBlock cX8_parseBlock 5 12 ad [.ref (ad 3), .ref (ad 1), .int p2, .int p3] M K := c_X8_parseBlock (f_X8_parseCommandR 3) 11 (by omega) (c_X8_parseCommandR 3) p2 p3 M K h
def f_X8_parseCommandC (p2 : Int32) (M : TM) (K : TM → Prop) : Prop := f_X8_parseCommandR 3 p2 M K
theorem c_X8_parseCommandC {ad : Nat → Nat} (p2 : Int32) (M : TM) (K : TM → Prop) (h : f_X8_parseCommandC p2 M K) : MV yX8_parseCommand cX8_parseCommand 5 11 ad [.ref (ad 3), .ref (ad 1), .int p2] M K := c_X8_parseCommandR 3 p2 M K h
def f_X3_parse (a1 : Nat) (M : TM) (K : TM → Prop) : Prop := f_X10_readWord 9 M (fun M1 => f_X10_readNumber (3 : Int32) (16 : Int32) M1 (fun r3 M2 => f_X2_clear a1 r3 M2 (fun M4 => f_X10_readToken (5 : Int32) M4 (fun M5 => f_X3_parseSections a1 M5 (fun M6 => f_X3_parseBarges a1 M6 (fun M7 => f_X3_parseOrders a1 M7 (fun M8 => f_X10_readToken (0 : Int32) M8 (fun M9 => K M9))))))))
set_option maxRecDepth 100000 in
set_option maxHeartbeats 4000000 in
theorem c_X3_parse {ad : Nat → Nat} (a1 : Nat) (h1 : IsCanal a1) (M : TM) (K : TM → Prop) (h : f_X3_parse a1 M K) : MV yX3_parse cX3_parse 2 6 ad [.ref (ad 1), .ref (ad a1)] M K := by
  refine MV_of RX3 rfl (by decide +kernel) (Nat.le_of_ble_eq_true rfl) (fun p l e s m below meth c D tc E hr => ?_)
  unfold f_X3_parse at h
  refine ra_aload_n E dX3_parse_0 rfl 0 rfl ?_
  refine ra_ldcS E sr_X3_9 dX3_parse_1 ?_
  refine ra_callVV (rest := []) E (c_X10_readWord _ (Nat.le_of_ble_eq_true rfl) _ _ h) (lq_X10 _) cv_X10_readWord ml_X3_11 (by decide) (lm (by decide)) (fun R => ⟨_, cel_1 tc ad R⟩) rfl rfl rfl (Nat.le_of_ble_eq_true rfl) ⟨Nat.le_of_ble_eq_true rfl, Nat.le_of_ble_eq_true rfl⟩ ⟨Nat.zero_le _, Nat.zero_le _⟩ dX3_parse_3 (fun M1 h => ?_)
  refine ra_aload_n E dX3_parse_6 rfl 1 rfl ?_
  refine ra_aload_n E dX3_parse_7 rfl 0 rfl ?_
  refine ra_iconst E dX3_parse_8 ki_3 ?_
  refine ra_bipush E dX3_parse_9 kb_16 ?_
  refine ra_callIV (rest := [_]) E (c_X10_readNumber _ _ _ _ h) (lq_X10 _) cv_X10_readNumber ml_X3_17 (by decide) (lm (by decide)) (fun R => ⟨_, cel_1 tc ad R⟩) rfl rfl rfl (Nat.le_of_ble_eq_true rfl) ⟨Nat.le_of_ble_eq_true rfl, Nat.le_of_ble_eq_true rfl⟩ ⟨Nat.zero_le _, Nat.zero_le _⟩ dX3_parse_11 (fun r3 M2 h => ?_)
  refine ra_callVV (rest := []) E (c_X2_clear _ h1 _ _ _ h) (lq_X2 _) cv_X2_clear ml_X3_21 (by decide) (lm (h1.add (j := 0) (by decide))) (fun R => ⟨_, cel_canal tc ad h1 R⟩) rfl rfl rfl (Nat.le_of_ble_eq_true rfl) ⟨Nat.le_of_ble_eq_true rfl, Nat.le_of_ble_eq_true rfl⟩ ⟨Nat.zero_le _, Nat.zero_le _⟩ dX3_parse_14 (fun M4 h => ?_)
  refine ra_aload_n E dX3_parse_17 rfl 0 rfl ?_
  refine ra_iconst E dX3_parse_18 ki_5 ?_
  refine ra_callVV (rest := []) E (c_X10_readToken _ _ _ h) (lq_X10 _) cv_X10_readToken ml_X3_27 (by decide) (lm (by decide)) (fun R => ⟨_, cel_1 tc ad R⟩) rfl rfl rfl (Nat.le_of_ble_eq_true rfl) ⟨Nat.le_of_ble_eq_true rfl, Nat.le_of_ble_eq_true rfl⟩ ⟨Nat.zero_le _, Nat.zero_le _⟩ dX3_parse_19 (fun M5 h => ?_)
  refine ra_aload_n E dX3_parse_22 rfl 0 rfl ?_
  refine ra_aload_n E dX3_parse_23 rfl 1 rfl ?_
  refine ra_callVS (rest := []) E (c_X3_parseSections _ h1 _ _ h) (lq_X3 _) ct_X3_parseSections ml_X3_30 (by decide) rfl rfl (Nat.le_of_ble_eq_true rfl) ⟨Nat.le_of_ble_eq_true rfl, Nat.le_of_ble_eq_true rfl⟩ ⟨Nat.zero_le _, Nat.zero_le _⟩ dX3_parse_24 (fun M6 h => ?_)
  refine ra_aload_n E dX3_parse_27 rfl 0 rfl ?_
  refine ra_aload_n E dX3_parse_28 rfl 1 rfl ?_
  refine ra_callVS (rest := []) E (c_X3_parseBarges _ h1 _ _ h) (lq_X3 _) ct_X3_parseBarges ml_X3_36 (by decide) rfl rfl (Nat.le_of_ble_eq_true rfl) ⟨Nat.le_of_ble_eq_true rfl, Nat.le_of_ble_eq_true rfl⟩ ⟨Nat.zero_le _, Nat.zero_le _⟩ dX3_parse_29 (fun M7 h => ?_)
  refine ra_aload_n E dX3_parse_32 rfl 0 rfl ?_
  refine ra_aload_n E dX3_parse_33 rfl 1 rfl ?_
  refine ra_callVS (rest := []) E (c_X3_parseOrders _ h1 _ _ h) (lq_X3 _) ct_X3_parseOrders ml_X3_39 (by decide) rfl rfl (Nat.le_of_ble_eq_true rfl) ⟨Nat.le_of_ble_eq_true rfl, Nat.le_of_ble_eq_true rfl⟩ ⟨Nat.zero_le _, Nat.zero_le _⟩ dX3_parse_34 (fun M8 h => ?_)
  refine ra_aload_n E dX3_parse_37 rfl 0 rfl ?_
  refine ra_iconst E dX3_parse_38 ki_0 ?_
  refine ra_callVV (rest := []) E (c_X10_readToken _ _ _ h) (lq_X10 _) cv_X10_readToken ml_X3_27 (by decide) (lm (by decide)) (fun R => ⟨_, cel_1 tc ad R⟩) rfl rfl rfl (Nat.le_of_ble_eq_true rfl) ⟨Nat.le_of_ble_eq_true rfl, Nat.le_of_ble_eq_true rfl⟩ ⟨Nat.zero_le _, Nat.zero_le _⟩ dX3_parse_39 (fun M9 h => ?_)
  exact ra_vret E hr dX3_parse_42 h
def f_X8_parse  (M : TM) (K : TM → Prop) : Prop := ∀ M1, M1 = u2 M 3 1 (0 : Int32) → f_X8_parseBlockC (0 : Int32) (0 : Int32) M1 (fun M2 => K M2)
set_option maxRecDepth 100000 in
set_option maxHeartbeats 4000000 in
theorem c_X8_parse {ad : Nat → Nat}  (M : TM) (K : TM → Prop) (h : f_X8_parse  M K) : MV yX8_parse cX8_parse 2 13 ad [.ref (ad 3), .ref (ad 1)] M K := by
  refine MV_of RX8 rfl (by decide +kernel) (Nat.le_of_ble_eq_true rfl) (fun p l e s m below meth c D tc E hr => ?_)
  unfold f_X8_parse at h
  refine ra_aload_n E dX8_parse_0 rfl 0 rfl ?_
  refine ra_iconst E dX8_parse_1 ki_0 ?_
  refine pf_X8_1 E fl_X8_17 dX8_parse_2 ?_
  replace h := h _ rfl
  refine ra_aload_n E dX8_parse_5 rfl 0 rfl ?_
  refine ra_aload_n E dX8_parse_6 rfl 1 rfl ?_
  refine ra_iconst E dX8_parse_7 ki_0 ?_
  refine ra_iconst E dX8_parse_8 ki_0 ?_
  refine ra_callVV (rest := []) E (c_X8_parseBlockC _ _ _ _ h) (lq_X8 _) cv_X8_parseBlock ml_X8_27 (by decide) (lm (by decide)) (fun R => ⟨_, cel_3 tc ad R⟩) rfl rfl rfl (Nat.le_of_ble_eq_true rfl) ⟨Nat.le_of_ble_eq_true rfl, Nat.le_of_ble_eq_true rfl⟩ ⟨Nat.zero_le _, Nat.zero_le _⟩ dX8_parse_9 (fun M2 h => ?_)
  exact ra_vret E hr dX8_parse_12 h
