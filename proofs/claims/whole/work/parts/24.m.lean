def f_X13_isLetter (p1 : Int32) (M : TM) (K : Int32 → TM → Prop) : Prop := f_X13_byteAt p1 M (fun r2 M1 => ((r2 < (97 : Int32) → K (0 : Int32) M1) ∧ (¬ r2 < (97 : Int32) → f_X13_byteAt p1 M1 (fun r5 M4 => (((122 : Int32) < r5 → K (0 : Int32) M4) ∧ (¬ (122 : Int32) < r5 → K (1 : Int32) M4))))))
set_option maxRecDepth 100000 in
set_option maxHeartbeats 4000000 in
theorem c_X13_isLetter {ad : Nat → Nat} (p1 : Int32) (M : TM) (K : Int32 → TM → Prop) (h : f_X13_isLetter p1 M K) : MI yX13_isLetter cX13_isLetter 2 (some .boolean) 1 ad [.ref (ad 699), .int p1] M (fun r M' => (r = 0 ∨ r = 1) ∧ K r M') := by
  refine MI_of RX13 rfl (by decide +kernel) (Nat.le_of_ble_eq_true rfl) (fun p l e s m below meth c D tc E hr => ?_)
  unfold f_X13_isLetter at h
  refine ra_aload_n E dX13_isLetter_0 rfl 0 rfl ?_
  refine ra_iload_n E dX13_isLetter_1 rfl 1 rfl ?_
  refine ra_callIV (rest := []) E (c_X13_byteAt _ _ _ h) lq_13 cv_X13_byteAt ml_X13_305 (by decide) (lmM (by decide)) (fun R => ⟨_, cel_699 tc ad R⟩) rfl rfl rfl (Nat.le_of_ble_eq_true rfl) ⟨Nat.le_of_ble_eq_true rfl, Nat.le_of_ble_eq_true rfl⟩ ⟨Nat.zero_le _, Nat.zero_le _⟩ dX13_isLetter_2 (fun r2 M1 h => ?_)
  refine ra_bipush E dX13_isLetter_5 kb_97 ?_
  refine ra_icmp_lt (tgt := 24) E dX13_isLetter_7 (by decide) (fun q3 => ?_) (fun q3 => ?_)
  · replace h := h.1 q3
    refine ra_iconst E dX13_isLetter_24 ki_0 ?_
    exact ra_zret E hr rfl dX13_isLetter_25 ⟨Or.inl rfl, h⟩
  · replace h := h.2 q3
    refine ra_aload_n E dX13_isLetter_10 rfl 0 rfl ?_
    refine ra_iload_n E dX13_isLetter_11 rfl 1 rfl ?_
    refine ra_callIV (rest := []) E (c_X13_byteAt _ _ _ h) lq_13 cv_X13_byteAt ml_X13_305 (by decide) (lmM (by decide)) (fun R => ⟨_, cel_699 tc ad R⟩) rfl rfl rfl (Nat.le_of_ble_eq_true rfl) ⟨Nat.le_of_ble_eq_true rfl, Nat.le_of_ble_eq_true rfl⟩ ⟨Nat.zero_le _, Nat.zero_le _⟩ dX13_isLetter_12 (fun r5 M4 h => ?_)
    refine ra_bipush E dX13_isLetter_15 kb_122 ?_
    refine ra_icmp_gt (tgt := 24) E dX13_isLetter_17 (by decide) (fun q6 => ?_) (fun q6 => ?_)
    · replace h := h.1 q6
      refine ra_iconst E dX13_isLetter_24 ki_0 ?_
      exact ra_zret E hr rfl dX13_isLetter_25 ⟨Or.inl rfl, h⟩
    · replace h := h.2 q6
      refine ra_iconst E dX13_isLetter_20 ki_1 ?_
      refine ra_goto (tgt := 25) E dX13_isLetter_21 (by decide) ?_
      exact ra_zret E hr rfl dX13_isLetter_25 ⟨Or.inr rfl, h⟩
def f_X13_isDigit (p1 : Int32) (M : TM) (K : Int32 → TM → Prop) : Prop := f_X13_byteAt p1 M (fun r2 M1 => ((r2 < (48 : Int32) → K (0 : Int32) M1) ∧ (¬ r2 < (48 : Int32) → f_X13_byteAt p1 M1 (fun r5 M4 => (((57 : Int32) < r5 → K (0 : Int32) M4) ∧ (¬ (57 : Int32) < r5 → K (1 : Int32) M4))))))
set_option maxRecDepth 100000 in
set_option maxHeartbeats 4000000 in
theorem c_X13_isDigit {ad : Nat → Nat} (p1 : Int32) (M : TM) (K : Int32 → TM → Prop) (h : f_X13_isDigit p1 M K) : MI yX13_isDigit cX13_isDigit 2 (some .boolean) 1 ad [.ref (ad 699), .int p1] M (fun r M' => (r = 0 ∨ r = 1) ∧ K r M') := by
  refine MI_of RX13 rfl (by decide +kernel) (Nat.le_of_ble_eq_true rfl) (fun p l e s m below meth c D tc E hr => ?_)
  unfold f_X13_isDigit at h
  refine ra_aload_n E dX13_isDigit_0 rfl 0 rfl ?_
  refine ra_iload_n E dX13_isDigit_1 rfl 1 rfl ?_
  refine ra_callIV (rest := []) E (c_X13_byteAt _ _ _ h) lq_13 cv_X13_byteAt ml_X13_305 (by decide) (lmM (by decide)) (fun R => ⟨_, cel_699 tc ad R⟩) rfl rfl rfl (Nat.le_of_ble_eq_true rfl) ⟨Nat.le_of_ble_eq_true rfl, Nat.le_of_ble_eq_true rfl⟩ ⟨Nat.zero_le _, Nat.zero_le _⟩ dX13_isDigit_2 (fun r2 M1 h => ?_)
  refine ra_bipush E dX13_isDigit_5 kb_48 ?_
  refine ra_icmp_lt (tgt := 24) E dX13_isDigit_7 (by decide) (fun q3 => ?_) (fun q3 => ?_)
  · replace h := h.1 q3
    refine ra_iconst E dX13_isDigit_24 ki_0 ?_
    exact ra_zret E hr rfl dX13_isDigit_25 ⟨Or.inl rfl, h⟩
  · replace h := h.2 q3
    refine ra_aload_n E dX13_isDigit_10 rfl 0 rfl ?_
    refine ra_iload_n E dX13_isDigit_11 rfl 1 rfl ?_
    refine ra_callIV (rest := []) E (c_X13_byteAt _ _ _ h) lq_13 cv_X13_byteAt ml_X13_305 (by decide) (lmM (by decide)) (fun R => ⟨_, cel_699 tc ad R⟩) rfl rfl rfl (Nat.le_of_ble_eq_true rfl) ⟨Nat.le_of_ble_eq_true rfl, Nat.le_of_ble_eq_true rfl⟩ ⟨Nat.zero_le _, Nat.zero_le _⟩ dX13_isDigit_12 (fun r5 M4 h => ?_)
    refine ra_bipush E dX13_isDigit_15 kb_57 ?_
    refine ra_icmp_gt (tgt := 24) E dX13_isDigit_17 (by decide) (fun q6 => ?_) (fun q6 => ?_)
    · replace h := h.1 q6
      refine ra_iconst E dX13_isDigit_24 ki_0 ?_
      exact ra_zret E hr rfl dX13_isDigit_25 ⟨Or.inl rfl, h⟩
    · replace h := h.2 q6
      refine ra_iconst E dX13_isDigit_20 ki_1 ?_
      refine ra_goto (tgt := 25) E dX13_isDigit_21 (by decide) ?_
      exact ra_zret E hr rfl dX13_isDigit_25 ⟨Or.inr rfl, h⟩
def f_X13_scan_L120  (K : TM → Prop) : Nat → TM → Prop
  | 0, _ => False
  | n + 1, M => f_X13_isDigit (M 699 17) M (fun r21 M20 => ((r21 = 0 → ∀ M24, M24 = u2 M20 699 19 (2 : Int32) → K M24) ∧ (¬ r21 = 0 → ∀ M25, M25 = u2 M20 699 17 ((M20 699 17) + (1 : Int32)) → f_X13_scan_L120 K n M25)))
set_option maxRecDepth 100000 in
set_option maxHeartbeats 4000000 in
theorem l_X13_scan_L120 {p : Program} {l : Launch} {e : Env} {s : State} {m : MethodId} {args : Array Value} {below : List Frame} {meth : Method} {c : Code} {D : va_G} {tc : Nat → ClassId} {ad : Nat → Nat}  {K : TM → Prop} (E : Ev p s m args meth c D tc ad RX13 cX13_scan 1) (hr : meth.sig.returnType = none) : ∀ (n : Nat)  (M : TM) , f_X13_scan_L120  K n  M → Wa p l e (rmD 2) s m args below meth c 0 0 (MQ below (va_Qv K (EndW D tc ad) (A0 ad s.heap.size)) args s 0 0 (A0 ad s.heap.size)) D tc ad 1 M 120 [(0, .ref (ad 699))] [] := by
  intro n
  induction n with
  | zero => intro  M  h; exact h.elim
  | succ n ih =>
    intro  M  h
    unfold f_X13_scan_L120 at h
    refine ra_aload_n E dX13_scan_120 rfl 0 rfl ?_
    refine ra_aload_n E dX13_scan_121 rfl 0 rfl ?_
    refine gf_X13_17 E lm13 fl_X13_308 dX13_scan_122 ?_
    refine ra_callIV (rest := []) E (c_X13_isDigit _ _ _ h) lq_13 cv_X13_isDigit ml_X13_320 (by decide) (lmM (by decide)) (fun R => ⟨_, cel_699 tc ad R⟩) rfl rfl rfl (Nat.le_of_ble_eq_true rfl) ⟨Nat.le_of_ble_eq_true rfl, Nat.le_of_ble_eq_true rfl⟩ ⟨Nat.zero_le _, Nat.zero_le _⟩ dX13_scan_125 (fun r21 M20 h => ?_)
    obtain ⟨b22, h⟩ := h
    refine ra_if_eq (tgt := 144) E dX13_scan_128 (by decide) (fun q23 => ?_) (fun q23 => ?_)
    · replace h := h.1 q23
      refine ra_aload_n E dX13_scan_144 rfl 0 rfl ?_
      refine ra_iconst E dX13_scan_145 ki_2 ?_
      refine pf_X13_19 E lm13 fl_X13_314 dX13_scan_146 ?_
      replace h := h _ rfl
      refine ra_goto (tgt := 167) E dX13_scan_149 (by decide) ?_
      exact ra_vret E hr dX13_scan_167 h
    · replace h := h.2 q23
      refine ra_aload_n E dX13_scan_131 rfl 0 rfl ?_
      refine ra_dup E dX13_scan_132 rfl ?_
      refine gf_X13_17 E lm13 fl_X13_308 dX13_scan_133 ?_
      refine ra_iconst E dX13_scan_136 ki_1 ?_
      refine ra_iadd E dX13_scan_137 ?_
      refine pf_X13_17 E lm13 fl_X13_308 dX13_scan_138 ?_
      replace h := h _ rfl
      refine ra_goto (tgt := 120) E dX13_scan_141 (by decide) ?_
      exact ra_sub (L' := [(0, _)]) [0] rfl (ih _ h)
def f_X13_scan_L77  (K : TM → Prop) : Nat → TM → Prop
  | 0, _ => False
  | n + 1, M => f_X13_isLetter (M 699 17) M (fun r28 M27 => ((r28 = 0 → ∀ M31, M31 = u2 M27 699 19 (1 : Int32) → K M31) ∧ (¬ r28 = 0 → ∀ M32, M32 = u2 M27 699 17 ((M27 699 17) + (1 : Int32)) → f_X13_scan_L77 K n M32)))
set_option maxRecDepth 100000 in
set_option maxHeartbeats 4000000 in
theorem l_X13_scan_L77 {p : Program} {l : Launch} {e : Env} {s : State} {m : MethodId} {args : Array Value} {below : List Frame} {meth : Method} {c : Code} {D : va_G} {tc : Nat → ClassId} {ad : Nat → Nat}  {K : TM → Prop} (E : Ev p s m args meth c D tc ad RX13 cX13_scan 1) (hr : meth.sig.returnType = none) : ∀ (n : Nat)  (M : TM) , f_X13_scan_L77  K n  M → Wa p l e (rmD 2) s m args below meth c 0 0 (MQ below (va_Qv K (EndW D tc ad) (A0 ad s.heap.size)) args s 0 0 (A0 ad s.heap.size)) D tc ad 1 M 77 [(0, .ref (ad 699))] [] := by
  intro n
  induction n with
  | zero => intro  M  h; exact h.elim
  | succ n ih =>
    intro  M  h
    unfold f_X13_scan_L77 at h
    refine ra_aload_n E dX13_scan_77 rfl 0 rfl ?_
    refine ra_aload_n E dX13_scan_78 rfl 0 rfl ?_
    refine gf_X13_17 E lm13 fl_X13_308 dX13_scan_79 ?_
    refine ra_callIV (rest := []) E (c_X13_isLetter _ _ _ h) lq_13 cv_X13_isLetter ml_X13_317 (by decide) (lmM (by decide)) (fun R => ⟨_, cel_699 tc ad R⟩) rfl rfl rfl (Nat.le_of_ble_eq_true rfl) ⟨Nat.le_of_ble_eq_true rfl, Nat.le_of_ble_eq_true rfl⟩ ⟨Nat.zero_le _, Nat.zero_le _⟩ dX13_scan_82 (fun r28 M27 h => ?_)
    obtain ⟨b29, h⟩ := h
    refine ra_if_eq (tgt := 101) E dX13_scan_85 (by decide) (fun q30 => ?_) (fun q30 => ?_)
    · replace h := h.1 q30
      refine ra_aload_n E dX13_scan_101 rfl 0 rfl ?_
      refine ra_iconst E dX13_scan_102 ki_1 ?_
      refine pf_X13_19 E lm13 fl_X13_314 dX13_scan_103 ?_
      replace h := h _ rfl
      refine ra_goto (tgt := 167) E dX13_scan_106 (by decide) ?_
      exact ra_vret E hr dX13_scan_167 h
    · replace h := h.2 q30
      refine ra_aload_n E dX13_scan_88 rfl 0 rfl ?_
      refine ra_dup E dX13_scan_89 rfl ?_
      refine gf_X13_17 E lm13 fl_X13_308 dX13_scan_90 ?_
      refine ra_iconst E dX13_scan_93 ki_1 ?_
      refine ra_iadd E dX13_scan_94 ?_
      refine pf_X13_17 E lm13 fl_X13_308 dX13_scan_95 ?_
      replace h := h _ rfl
      refine ra_goto (tgt := 77) E dX13_scan_98 (by decide) ?_
      exact ra_sub (L' := [(0, _)]) [0] rfl (ih _ h)
def f_X13_scan_L0  (K : TM → Prop) : Nat → TM → Prop
  | 0, _ => False
  | n + 1, M => f_X13_byteAt (M 699 17) M (fun r2 M1 => ((r2 = (32 : Int32) → ∀ M4, M4 = u2 M1 699 17 ((M1 699 17) + (1 : Int32)) → f_X13_scan_L0 K n M4) ∧ (¬ r2 = (32 : Int32) → f_X13_byteAt (M1 699 17) M1 (fun r6 M5 => ((¬ r6 = (10 : Int32) → ∀ M8, M8 = u2 M5 699 18 (M5 699 17) → (((M8 699 17) < (M8 699 16) → f_X13_isLetter (M8 699 17) M8 (fun r11 M10 => ((r11 = 0 → f_X13_isDigit (M10 699 17) M10 (fun r15 M14 => ((r15 = 0 → ∀ M18, M18 = u2 M14 699 17 ((M14 699 17) + (1 : Int32)) → ∀ M19, M19 = u2 M18 699 19 (3 : Int32) → K M19) ∧ (¬ r15 = 0 → ∃ n, f_X13_scan_L120 K n M14)))) ∧ (¬ r11 = 0 → ∃ n, f_X13_scan_L77 K n M10)))) ∧ (¬ (M8 699 17) < (M8 699 16) → ∀ M34, M34 = u2 M8 699 19 (0 : Int32) → K M34))) ∧ (r6 = (10 : Int32) → ∀ M35, M35 = u2 M5 699 17 ((M5 699 17) + (1 : Int32)) → f_X13_scan_L0 K n M35))))))
set_option maxRecDepth 100000 in
set_option maxHeartbeats 4000000 in
theorem l_X13_scan_L0 {p : Program} {l : Launch} {e : Env} {s : State} {m : MethodId} {args : Array Value} {below : List Frame} {meth : Method} {c : Code} {D : va_G} {tc : Nat → ClassId} {ad : Nat → Nat}  {K : TM → Prop} (E : Ev p s m args meth c D tc ad RX13 cX13_scan 1) (hr : meth.sig.returnType = none) : ∀ (n : Nat)  (M : TM) , f_X13_scan_L0  K n  M → Wa p l e (rmD 2) s m args below meth c 0 0 (MQ below (va_Qv K (EndW D tc ad) (A0 ad s.heap.size)) args s 0 0 (A0 ad s.heap.size)) D tc ad 1 M 0 [(0, .ref (ad 699))] [] := by
  intro n
  induction n with
  | zero => intro  M  h; exact h.elim
  | succ n ih =>
    intro  M  h
    unfold f_X13_scan_L0 at h
    refine ra_aload_n E dX13_scan_0 rfl 0 rfl ?_
    refine ra_aload_n E dX13_scan_1 rfl 0 rfl ?_
    refine gf_X13_17 E lm13 fl_X13_308 dX13_scan_2 ?_
    refine ra_callIV (rest := []) E (c_X13_byteAt _ _ _ h) lq_13 cv_X13_byteAt ml_X13_305 (by decide) (lmM (by decide)) (fun R => ⟨_, cel_699 tc ad R⟩) rfl rfl rfl (Nat.le_of_ble_eq_true rfl) ⟨Nat.le_of_ble_eq_true rfl, Nat.le_of_ble_eq_true rfl⟩ ⟨Nat.zero_le _, Nat.zero_le _⟩ dX13_scan_5 (fun r2 M1 h => ?_)
    refine ra_bipush E dX13_scan_8 kb_32 ?_
    refine ra_icmp_eq (tgt := 26) E dX13_scan_10 (by decide) (fun q3 => ?_) (fun q3 => ?_)
    · replace h := h.1 q3
      refine ra_aload_n E dX13_scan_26 rfl 0 rfl ?_
      refine ra_dup E dX13_scan_27 rfl ?_
      refine gf_X13_17 E lm13 fl_X13_308 dX13_scan_28 ?_
      refine ra_iconst E dX13_scan_31 ki_1 ?_
      refine ra_iadd E dX13_scan_32 ?_
      refine pf_X13_17 E lm13 fl_X13_308 dX13_scan_33 ?_
      replace h := h _ rfl
      refine ra_goto (tgt := 0) E dX13_scan_36 (by decide) ?_
      exact ra_sub (L' := [(0, _)]) [0] rfl (ih _ h)
    · replace h := h.2 q3
      refine ra_aload_n E dX13_scan_13 rfl 0 rfl ?_
      refine ra_aload_n E dX13_scan_14 rfl 0 rfl ?_
      refine gf_X13_17 E lm13 fl_X13_308 dX13_scan_15 ?_
      refine ra_callIV (rest := []) E (c_X13_byteAt _ _ _ h) lq_13 cv_X13_byteAt ml_X13_305 (by decide) (lmM (by decide)) (fun R => ⟨_, cel_699 tc ad R⟩) rfl rfl rfl (Nat.le_of_ble_eq_true rfl) ⟨Nat.le_of_ble_eq_true rfl, Nat.le_of_ble_eq_true rfl⟩ ⟨Nat.zero_le _, Nat.zero_le _⟩ dX13_scan_18 (fun r6 M5 h => ?_)
      refine ra_bipush E dX13_scan_21 kb_10 ?_
      refine ra_icmp_ne (tgt := 39) E dX13_scan_23 (by decide) (fun q7 => ?_) (fun q7 => ?_)
      · replace h := h.1 q7
        refine ra_aload_n E dX13_scan_39 rfl 0 rfl ?_
        refine ra_aload_n E dX13_scan_40 rfl 0 rfl ?_
        refine gf_X13_17 E lm13 fl_X13_308 dX13_scan_41 ?_
        refine pf_X13_18 E lm13 fl_X13_311 dX13_scan_44 ?_
        replace h := h _ rfl
        refine ra_aload_n E dX13_scan_47 rfl 0 rfl ?_
        refine gf_X13_17 E lm13 fl_X13_308 dX13_scan_48 ?_
        refine ra_aload_n E dX13_scan_51 rfl 0 rfl ?_
        refine gf_X13_16 E lm13 fl_X13_302 dX13_scan_52 ?_
        refine ra_icmp_lt (tgt := 66) E dX13_scan_55 (by decide) (fun q9 => ?_) (fun q9 => ?_)
        · replace h := h.1 q9
          refine ra_aload_n E dX13_scan_66 rfl 0 rfl ?_
          refine ra_aload_n E dX13_scan_67 rfl 0 rfl ?_
          refine gf_X13_17 E lm13 fl_X13_308 dX13_scan_68 ?_
          refine ra_callIV (rest := []) E (c_X13_isLetter _ _ _ h) lq_13 cv_X13_isLetter ml_X13_317 (by decide) (lmM (by decide)) (fun R => ⟨_, cel_699 tc ad R⟩) rfl rfl rfl (Nat.le_of_ble_eq_true rfl) ⟨Nat.le_of_ble_eq_true rfl, Nat.le_of_ble_eq_true rfl⟩ ⟨Nat.zero_le _, Nat.zero_le _⟩ dX13_scan_71 (fun r11 M10 h => ?_)
          obtain ⟨b12, h⟩ := h
          refine ra_if_eq (tgt := 109) E dX13_scan_74 (by decide) (fun q13 => ?_) (fun q13 => ?_)
          · replace h := h.1 q13
            refine ra_aload_n E dX13_scan_109 rfl 0 rfl ?_
            refine ra_aload_n E dX13_scan_110 rfl 0 rfl ?_
            refine gf_X13_17 E lm13 fl_X13_308 dX13_scan_111 ?_
            refine ra_callIV (rest := []) E (c_X13_isDigit _ _ _ h) lq_13 cv_X13_isDigit ml_X13_320 (by decide) (lmM (by decide)) (fun R => ⟨_, cel_699 tc ad R⟩) rfl rfl rfl (Nat.le_of_ble_eq_true rfl) ⟨Nat.le_of_ble_eq_true rfl, Nat.le_of_ble_eq_true rfl⟩ ⟨Nat.zero_le _, Nat.zero_le _⟩ dX13_scan_114 (fun r15 M14 h => ?_)
            obtain ⟨b16, h⟩ := h
            refine ra_if_eq (tgt := 152) E dX13_scan_117 (by decide) (fun q17 => ?_) (fun q17 => ?_)
            · replace h := h.1 q17
              refine ra_aload_n E dX13_scan_152 rfl 0 rfl ?_
              refine ra_dup E dX13_scan_153 rfl ?_
              refine gf_X13_17 E lm13 fl_X13_308 dX13_scan_154 ?_
              refine ra_iconst E dX13_scan_157 ki_1 ?_
              refine ra_iadd E dX13_scan_158 ?_
              refine pf_X13_17 E lm13 fl_X13_308 dX13_scan_159 ?_
              replace h := h _ rfl
              refine ra_aload_n E dX13_scan_162 rfl 0 rfl ?_
              refine ra_iconst E dX13_scan_163 ki_3 ?_
              refine pf_X13_19 E lm13 fl_X13_314 dX13_scan_164 ?_
              replace h := h _ rfl
              exact ra_vret E hr dX13_scan_167 h
            · replace h := h.2 q17
              obtain ⟨n26, h⟩ := h
              exact ra_sub (L' := [(0, _)]) [0] rfl (l_X13_scan_L120 E hr n26 _ h)
          · replace h := h.2 q13
            obtain ⟨n33, h⟩ := h
            exact ra_sub (L' := [(0, _)]) [0] rfl (l_X13_scan_L77 E hr n33 _ h)
        · replace h := h.2 q9
          refine ra_aload_n E dX13_scan_58 rfl 0 rfl ?_
          refine ra_iconst E dX13_scan_59 ki_0 ?_
          refine pf_X13_19 E lm13 fl_X13_314 dX13_scan_60 ?_
          replace h := h _ rfl
          refine ra_goto (tgt := 167) E dX13_scan_63 (by decide) ?_
          exact ra_vret E hr dX13_scan_167 h
      · replace h := h.2 q7
        refine ra_aload_n E dX13_scan_26 rfl 0 rfl ?_
        refine ra_dup E dX13_scan_27 rfl ?_
        refine gf_X13_17 E lm13 fl_X13_308 dX13_scan_28 ?_
        refine ra_iconst E dX13_scan_31 ki_1 ?_
        refine ra_iadd E dX13_scan_32 ?_
        refine pf_X13_17 E lm13 fl_X13_308 dX13_scan_33 ?_
        replace h := h _ rfl
        refine ra_goto (tgt := 0) E dX13_scan_36 (by decide) ?_
        exact ra_sub (L' := [(0, _)]) [0] rfl (ih _ h)
def f_X13_scan  (M : TM) (K : TM → Prop) : Prop := ∃ n, f_X13_scan_L0 K n M
set_option maxRecDepth 100000 in
set_option maxHeartbeats 4000000 in
theorem c_X13_scan {ad : Nat → Nat}  (M : TM) (K : TM → Prop) (h : f_X13_scan  M K) : MV yX13_scan cX13_scan 1 2 ad [.ref (ad 699)] M K := by
  refine MV_of RX13 rfl (by decide +kernel) (Nat.le_of_ble_eq_true rfl) (fun p l e s m below meth c D tc E hr => ?_)
  unfold f_X13_scan at h
  obtain ⟨n36, h⟩ := h
  exact ra_sub (L' := [(0, _)]) [0] rfl (l_X13_scan_L0 E hr n36 _ h)
def f_X13_startText (p1 : Int32) (M : TM) (K : TM → Prop) : Prop := ∀ M1, M1 = u2 M 699 16 p1 → ∀ M2, M2 = u2 M1 699 17 (0 : Int32) → ∀ M3, M3 = u2 M2 699 20 (0 : Int32) → ∀ M4, M4 = u2 M3 699 23 (0 : Int32) → f_X13_scan M4 (fun M5 => K M5)
set_option maxRecDepth 100000 in
set_option maxHeartbeats 4000000 in
theorem c_X13_startText {ad : Nat → Nat} (p1 : Int32) (M : TM) (K : TM → Prop) (h : f_X13_startText p1 M K) : MV yX13_startText cX13_startText 2 3 ad [.ref (ad 699), .int p1] M K := by
  refine MV_of RX13 rfl (by decide +kernel) (Nat.le_of_ble_eq_true rfl) (fun p l e s m below meth c D tc E hr => ?_)
  unfold f_X13_startText at h
  refine ra_aload_n E dX13_startText_0 rfl 0 rfl ?_
  refine ra_iload_n E dX13_startText_1 rfl 1 rfl ?_
  refine pf_X13_16 E lm13 fl_X13_302 dX13_startText_2 ?_
  replace h := h _ rfl
  refine ra_aload_n E dX13_startText_5 rfl 0 rfl ?_
  refine ra_iconst E dX13_startText_6 ki_0 ?_
  refine pf_X13_17 E lm13 fl_X13_308 dX13_startText_7 ?_
  replace h := h _ rfl
  refine ra_aload_n E dX13_startText_10 rfl 0 rfl ?_
  refine ra_iconst E dX13_startText_11 ki_0 ?_
  refine pf_X13_20 E lm13 fl_X13_323 dX13_startText_12 ?_
  replace h := h _ rfl
  refine ra_aload_n E dX13_startText_15 rfl 0 rfl ?_
  refine ra_iconst E dX13_startText_16 ki_0 ?_
  refine pf_X13_23 E lm13 fl_X13_326 dX13_startText_17 ?_
  replace h := h _ rfl
  refine ra_aload_n E dX13_startText_20 rfl 0 rfl ?_
  refine ra_callVV (rest := []) E (c_X13_scan _ _ h) lq_13 cv_X13_scan ml_X13_329 (by decide) (lmM (by decide)) (fun R => ⟨_, cel_699 tc ad R⟩) rfl rfl rfl (Nat.le_of_ble_eq_true rfl) ⟨Nat.le_of_ble_eq_true rfl, Nat.le_of_ble_eq_true rfl⟩ ⟨Nat.zero_le _, Nat.zero_le _⟩ dX13_startText_21 (fun M5 h => ?_)
  exact ra_vret E hr dX13_startText_24 h
def f_X13_finish  (M : TM) (K : Int32 → TM → Prop) : Prop := ∀ M1, M1 = u2 M 699 15 (0 : Int32) → ((¬ (M1 699 20) = 0 → ∀ M3, M3 = u2 M1 699 22 (M1 699 21) → K (M3 699 20) M3) ∧ ((M1 699 20) = 0 → ∀ M4, M4 = u2 M1 699 22 (-1 : Int32) → K (M4 699 20) M4))
set_option maxRecDepth 100000 in
set_option maxHeartbeats 4000000 in
theorem c_X13_finish {ad : Nat → Nat}  (M : TM) (K : Int32 → TM → Prop) (h : f_X13_finish  M K) : MI yX13_finish cX13_finish 1 (some .int) 0 ad [.ref (ad 699)] M K := by
  refine MI_of RX13 rfl (by decide +kernel) (Nat.le_of_ble_eq_true rfl) (fun p l e s m below meth c D tc E hr => ?_)
  unfold f_X13_finish at h
  refine ra_aload_n E dX13_finish_0 rfl 0 rfl ?_
  refine ra_iconst E dX13_finish_1 ki_0 ?_
  refine pf_X13_15 E lm13 fl_X13_299 dX13_finish_2 ?_
  replace h := h _ rfl
  refine ra_aload_n E dX13_finish_5 rfl 0 rfl ?_
  refine ra_aload_n E dX13_finish_6 rfl 0 rfl ?_
  refine gf_X13_20 E lm13 fl_X13_323 dX13_finish_7 ?_
  refine ra_if_ne (tgt := 17) E dX13_finish_10 (by decide) (fun q2 => ?_) (fun q2 => ?_)
  · replace h := h.1 q2
    refine ra_aload_n E dX13_finish_17 rfl 0 rfl ?_
    refine gf_X13_21 E lm13 fl_X13_332 dX13_finish_18 ?_
    refine pf_X13_22 E lm13 fl_X13_37 dX13_finish_21 ?_
    replace h := h _ rfl
    refine ra_aload_n E dX13_finish_24 rfl 0 rfl ?_
    refine gf_X13_20 E lm13 fl_X13_323 dX13_finish_25 ?_
    exact ra_iret E hr dX13_finish_28 h
  · replace h := h.2 q2
    refine ra_iconst E dX13_finish_13 ki_m1 ?_
    refine ra_goto (tgt := 21) E dX13_finish_14 (by decide) ?_
    refine pf_X13_22 E lm13 fl_X13_37 dX13_finish_21 ?_
    replace h := h _ rfl
    refine ra_aload_n E dX13_finish_24 rfl 0 rfl ?_
    refine gf_X13_20 E lm13 fl_X13_323 dX13_finish_25 ?_
    exact ra_iret E hr dX13_finish_28 h
def f_X13_check (p1 : Int32) (p2 : Int32) (M : TM) (K : TM → Prop) : Prop := ((¬ p1 = 0 → K M) ∧ (p1 = 0 → ((¬ (M 699 20) = 0 → K M) ∧ ((M 699 20) = 0 → ∀ M3, M3 = u2 M 699 20 p2 → ∀ M4, M4 = u2 M3 699 21 (M3 699 18) → K M4))))
set_option maxRecDepth 100000 in
set_option maxHeartbeats 4000000 in
theorem c_X13_check {ad : Nat → Nat} (p1 : Int32) (p2 : Int32) (M : TM) (K : TM → Prop) (h : f_X13_check p1 p2 M K) : MV yX13_check cX13_check 3 0 ad [.ref (ad 699), .int p1, .int p2] M K := by
  refine MV_of RX13 rfl (by decide +kernel) (Nat.le_of_ble_eq_true rfl) (fun p l e s m below meth c D tc E hr => ?_)
  unfold f_X13_check at h
  refine ra_iload_n E dX13_check_0 rfl 1 rfl ?_
  refine ra_if_ne (tgt := 24) E dX13_check_1 (by decide) (fun q1 => ?_) (fun q1 => ?_)
  · replace h := h.1 q1
    exact ra_vret E hr dX13_check_24 h
  · replace h := h.2 q1
    refine ra_aload_n E dX13_check_4 rfl 0 rfl ?_
    refine gf_X13_20 E lm13 fl_X13_323 dX13_check_5 ?_
    refine ra_if_ne (tgt := 24) E dX13_check_8 (by decide) (fun q2 => ?_) (fun q2 => ?_)
    · replace h := h.1 q2
      exact ra_vret E hr dX13_check_24 h
    · replace h := h.2 q2
      refine ra_aload_n E dX13_check_11 rfl 0 rfl ?_
      refine ra_iload_n E dX13_check_12 rfl 2 rfl ?_
      refine pf_X13_20 E lm13 fl_X13_323 dX13_check_13 ?_
      replace h := h _ rfl
      refine ra_aload_n E dX13_check_16 rfl 0 rfl ?_
      refine ra_aload_n E dX13_check_17 rfl 0 rfl ?_
      refine gf_X13_18 E lm13 fl_X13_311 dX13_check_18 ?_
      refine pf_X13_21 E lm13 fl_X13_332 dX13_check_21 ?_
      replace h := h _ rfl
      exact ra_vret E hr dX13_check_24 h
def f_X13_advance  (M : TM) (K : TM → Prop) : Prop := ((¬ (M 699 20) = 0 → K M) ∧ ((M 699 20) = 0 → f_X13_scan M (fun M2 => K M2)))
set_option maxRecDepth 100000 in
set_option maxHeartbeats 4000000 in
theorem c_X13_advance {ad : Nat → Nat}  (M : TM) (K : TM → Prop) (h : f_X13_advance  M K) : MV yX13_advance cX13_advance 1 3 ad [.ref (ad 699)] M K := by
  refine MV_of RX13 rfl (by decide +kernel) (Nat.le_of_ble_eq_true rfl) (fun p l e s m below meth c D tc E hr => ?_)
  unfold f_X13_advance at h
  refine ra_aload_n E dX13_advance_0 rfl 0 rfl ?_
  refine gf_X13_20 E lm13 fl_X13_323 dX13_advance_1 ?_
  refine ra_if_ne (tgt := 11) E dX13_advance_4 (by decide) (fun q1 => ?_) (fun q1 => ?_)
  · replace h := h.1 q1
    exact ra_vret E hr dX13_advance_11 h
  · replace h := h.2 q1
    refine ra_aload_n E dX13_advance_7 rfl 0 rfl ?_
    refine ra_callVV (rest := []) E (c_X13_scan _ _ h) lq_13 cv_X13_scan ml_X13_329 (by decide) (lmM (by decide)) (fun R => ⟨_, cel_699 tc ad R⟩) rfl rfl rfl (Nat.le_of_ble_eq_true rfl) ⟨Nat.le_of_ble_eq_true rfl, Nat.le_of_ble_eq_true rfl⟩ ⟨Nat.zero_le _, Nat.zero_le _⟩ dX13_advance_8 (fun M2 h => ?_)
    exact ra_vret E hr dX13_advance_11 h
def f_X13_isSymbol (p1 : Int32) (M : TM) (K : Int32 → TM → Prop) : Prop := ((¬ (M 699 20) = 0 → K (0 : Int32) M) ∧ ((M 699 20) = 0 → ((¬ (M 699 19) = (3 : Int32) → K (0 : Int32) M) ∧ ((M 699 19) = (3 : Int32) → vp_in (M 699 18) 500 ∧ ((¬ (M 707 (M 699 18).toNatClampNeg) = p1 → K (0 : Int32) M) ∧ ((M 707 (M 699 18).toNatClampNeg) = p1 → K (1 : Int32) M))))))
set_option maxRecDepth 100000 in
set_option maxHeartbeats 4000000 in
theorem c_X13_isSymbol {ad : Nat → Nat} (p1 : Int32) (M : TM) (K : Int32 → TM → Prop) (h : f_X13_isSymbol p1 M K) : MI yX13_isSymbol cX13_isSymbol 2 (some .boolean) 0 ad [.ref (ad 699), .int p1] M (fun r M' => (r = 0 ∨ r = 1) ∧ K r M') := by
  refine MI_of RX13 rfl (by decide +kernel) (Nat.le_of_ble_eq_true rfl) (fun p l e s m below meth c D tc E hr => ?_)
  unfold f_X13_isSymbol at h
  refine ra_aload_n E dX13_isSymbol_0 rfl 0 rfl ?_
  refine gf_X13_20 E lm13 fl_X13_323 dX13_isSymbol_1 ?_
  refine ra_if_ne (tgt := 32) E dX13_isSymbol_4 (by decide) (fun q1 => ?_) (fun q1 => ?_)
  · replace h := h.1 q1
    refine ra_iconst E dX13_isSymbol_32 ki_0 ?_
    exact ra_zret E hr rfl dX13_isSymbol_33 ⟨Or.inl rfl, h⟩
  · replace h := h.2 q1
    refine ra_aload_n E dX13_isSymbol_7 rfl 0 rfl ?_
    refine gf_X13_19 E lm13 fl_X13_314 dX13_isSymbol_8 ?_
    refine ra_iconst E dX13_isSymbol_11 ki_3 ?_
    refine ra_icmp_ne (tgt := 32) E dX13_isSymbol_12 (by decide) (fun q2 => ?_) (fun q2 => ?_)
    · replace h := h.1 q2
      refine ra_iconst E dX13_isSymbol_32 ki_0 ?_
      exact ra_zret E hr rfl dX13_isSymbol_33 ⟨Or.inl rfl, h⟩
    · replace h := h.2 q2
      refine ra_aload_n E dX13_isSymbol_15 rfl 0 rfl ?_
      refine gf_X13_14 E lm13 fl_X13_34 dX13_isSymbol_16 ?_
      refine ra_aload_n E dX13_isSymbol_19 rfl 0 rfl ?_
      refine gf_X13_18 E lm13 fl_X13_311 dX13_isSymbol_20 ?_
      obtain ⟨g3, h⟩ := h
      refine ra_iald E (lmM (by decide)) (cel_707 tc ad) g3 dX13_isSymbol_23 ?_
      refine ra_iload_n E dX13_isSymbol_24 rfl 1 rfl ?_
      refine ra_icmp_ne (tgt := 32) E dX13_isSymbol_25 (by decide) (fun q4 => ?_) (fun q4 => ?_)
      · replace h := h.1 q4
        refine ra_iconst E dX13_isSymbol_32 ki_0 ?_
        exact ra_zret E hr rfl dX13_isSymbol_33 ⟨Or.inl rfl, h⟩
      · replace h := h.2 q4
        refine ra_iconst E dX13_isSymbol_28 ki_1 ?_
        refine ra_goto (tgt := 33) E dX13_isSymbol_29 (by decide) ?_
        exact ra_zret E hr rfl dX13_isSymbol_33 ⟨Or.inr rfl, h⟩
def f_X13_expect (p1 : Int32) (M : TM) (K : TM → Prop) : Prop := f_X13_isSymbol p1 M (fun r2 M1 => f_X13_check r2 (1 : Int32) M1 (fun M4 => f_X13_advance M4 (fun M5 => K M5)))
set_option maxRecDepth 100000 in
set_option maxHeartbeats 4000000 in
theorem c_X13_expect {ad : Nat → Nat} (p1 : Int32) (M : TM) (K : TM → Prop) (h : f_X13_expect p1 M K) : MV yX13_expect cX13_expect 2 4 ad [.ref (ad 699), .int p1] M K := by
  refine MV_of RX13 rfl (by decide +kernel) (Nat.le_of_ble_eq_true rfl) (fun p l e s m below meth c D tc E hr => ?_)
  unfold f_X13_expect at h
  refine ra_aload_n E dX13_expect_0 rfl 0 rfl ?_
  refine ra_aload_n E dX13_expect_1 rfl 0 rfl ?_
  refine ra_iload_n E dX13_expect_2 rfl 1 rfl ?_
  refine ra_callIV (rest := [_]) E (c_X13_isSymbol _ _ _ h) lq_13 cv_X13_isSymbol ml_X13_346 (by decide) (lmM (by decide)) (fun R => ⟨_, cel_699 tc ad R⟩) rfl rfl rfl (Nat.le_of_ble_eq_true rfl) ⟨Nat.le_of_ble_eq_true rfl, Nat.le_of_ble_eq_true rfl⟩ ⟨Nat.zero_le _, Nat.zero_le _⟩ dX13_expect_3 (fun r2 M1 h => ?_)
  obtain ⟨b3, h⟩ := h
  refine ra_iconst E dX13_expect_6 ki_1 ?_
  refine ra_callVV (rest := []) E (c_X13_check _ _ _ _ h) lq_13 cv_X13_check ml_X13_349 (by decide) (lmM (by decide)) (fun R => ⟨_, cel_699 tc ad R⟩) rfl rfl rfl (Nat.le_of_ble_eq_true rfl) ⟨Nat.le_of_ble_eq_true rfl, Nat.le_of_ble_eq_true rfl⟩ ⟨Nat.zero_le _, Nat.zero_le _⟩ dX13_expect_7 (fun M4 h => ?_)
  refine ra_aload_n E dX13_expect_10 rfl 0 rfl ?_
  refine ra_callVV (rest := []) E (c_X13_advance _ _ h) lq_13 cv_X13_advance ml_X13_353 (by decide) (lmM (by decide)) (fun R => ⟨_, cel_699 tc ad R⟩) rfl rfl rfl (Nat.le_of_ble_eq_true rfl) ⟨Nat.le_of_ble_eq_true rfl, Nat.le_of_ble_eq_true rfl⟩ ⟨Nat.zero_le _, Nat.zero_le _⟩ dX13_expect_11 (fun M5 h => ?_)
  exact ra_vret E hr dX13_expect_14 h
def f_X13_value_L7  (K : Int32 → TM → Prop) : Nat → Int32 → Int32 → TM → Prop
  | 0, _, _, _ => False
  | n + 1, x1, x2, M => (((M 699 17) ≤ x2 → K x1 M) ∧ (¬ (M 699 17) ≤ x2 → ((¬ (M 699 19) = (2 : Int32) → K x1 M) ∧ ((M 699 19) = (2 : Int32) → ((x1 ≤ (9999999 : Int32) → vp_in x2 500 ∧ f_X13_value_L7 K n ((((10 : Int32) * x1) + (M 707 x2.toNatClampNeg)) - (48 : Int32)) (x2 + 1) M) ∧ (¬ x1 ≤ (9999999 : Int32) → f_X13_value_L7 K n x1 (x2 + 1) M))))))
set_option maxRecDepth 100000 in
set_option maxHeartbeats 4000000 in
theorem l_X13_value_L7 {p : Program} {l : Launch} {e : Env} {s : State} {m : MethodId} {args : Array Value} {below : List Frame} {meth : Method} {c : Code} {D : va_G} {tc : Nat → ClassId} {ad : Nat → Nat}  {K : Int32 → TM → Prop} (E : Ev p s m args meth c D tc ad RX13 cX13_value 3) (hr : meth.sig.returnType = (some .int)) : ∀ (n : Nat) (x1 : Int32) (x2 : Int32) (M : TM) , f_X13_value_L7  K n x1 x2 M → Wa p l e (rmD 0) s m args below meth c 0 0 (MQ below (va_Qi K (EndW D tc ad) (A0 ad s.heap.size)) args s 0 0 (A0 ad s.heap.size)) D tc ad 3 M 7 [(0, .ref (ad 699)), (1, .int x1), (2, .int x2)] [] := by
  intro n
  induction n with
  | zero => intro x1 x2 M  h; exact h.elim
  | succ n ih =>
    intro x1 x2 M  h
    unfold f_X13_value_L7 at h
    refine ra_iload_n E dX13_value_7 rfl 2 rfl ?_
    refine ra_aload_n E dX13_value_8 rfl 0 rfl ?_
    refine gf_X13_17 E lm13 fl_X13_308 dX13_value_9 ?_
    refine ra_icmp_ge (tgt := 55) E dX13_value_12 (by decide) (fun q1 => ?_) (fun q1 => ?_)
    · replace h := h.1 q1
      refine ra_iload_n E dX13_value_55 rfl 1 rfl ?_
      exact ra_iret E hr dX13_value_56 h
    · replace h := h.2 q1
      refine ra_aload_n E dX13_value_15 rfl 0 rfl ?_
      refine gf_X13_19 E lm13 fl_X13_314 dX13_value_16 ?_
      refine ra_iconst E dX13_value_19 ki_2 ?_
      refine ra_icmp_ne (tgt := 55) E dX13_value_20 (by decide) (fun q2 => ?_) (fun q2 => ?_)
      · replace h := h.1 q2
        refine ra_iload_n E dX13_value_55 rfl 1 rfl ?_
        exact ra_iret E hr dX13_value_56 h
      · replace h := h.2 q2
        refine ra_iload_n E dX13_value_23 rfl 1 rfl ?_
        refine ra_ldciw (v := 9999999) E kc_X13_356 dX13_value_24 ?_
        refine ra_icmp_le (tgt := 34) E dX13_value_27 (by decide) (fun q3 => ?_) (fun q3 => ?_)
        · replace h := h.1 q3
          refine ra_bipush E dX13_value_34 kb_10 ?_
          refine ra_iload_n E dX13_value_36 rfl 1 rfl ?_
          refine ra_imul E dX13_value_37 ?_
          refine ra_aload_n E dX13_value_38 rfl 0 rfl ?_
          refine gf_X13_14 E lm13 fl_X13_34 dX13_value_39 ?_
          refine ra_iload_n E dX13_value_42 rfl 2 rfl ?_
          obtain ⟨g4, h⟩ := h
          refine ra_iald E (lmM (by decide)) (cel_707 tc ad) g4 dX13_value_43 ?_
          refine ra_iadd E dX13_value_44 ?_
          refine ra_bipush E dX13_value_45 kb_48 ?_
          refine ra_isub E dX13_value_47 ?_
          refine ra_istore_n (L' := [(1, _), (0, _), (2, _)]) E dX13_value_48 rfl (by decide) rfl ?_
          refine ra_iinc1 (L' := [(2, _), (1, _), (0, _)]) E dX13_value_49 2 rfl (by decide) rfl ?_
          refine ra_goto (tgt := 7) E dX13_value_52 (by decide) ?_
          exact ra_sub (L' := [(0, _), (1, _), (2, _)]) [2, 1, 0] rfl (ih _ _ _ h)
        · replace h := h.2 q3
          refine ra_iload_n E dX13_value_30 rfl 1 rfl ?_
          refine ra_goto (tgt := 48) E dX13_value_31 (by decide) ?_
          refine ra_istore_n (L' := [(1, _), (0, _), (2, _)]) E dX13_value_48 rfl (by decide) rfl ?_
          refine ra_iinc1 (L' := [(2, _), (1, _), (0, _)]) E dX13_value_49 2 rfl (by decide) rfl ?_
          refine ra_goto (tgt := 7) E dX13_value_52 (by decide) ?_
          exact ra_sub (L' := [(0, _), (1, _), (2, _)]) [2, 1, 0] rfl (ih _ _ _ h)
def f_X13_value  (M : TM) (K : Int32 → TM → Prop) : Prop := ∃ n, f_X13_value_L7 K n (0 : Int32) (M 699 18) M
set_option maxRecDepth 100000 in
set_option maxHeartbeats 4000000 in
theorem c_X13_value {ad : Nat → Nat}  (M : TM) (K : Int32 → TM → Prop) (h : f_X13_value  M K) : MI yX13_value cX13_value 3 (some .int) 0 ad [.ref (ad 699)] M K := by
  refine MI_of RX13 rfl (by decide +kernel) (Nat.le_of_ble_eq_true rfl) (fun p l e s m below meth c D tc E hr => ?_)
  unfold f_X13_value at h
  refine ra_iconst E dX13_value_0 ki_0 ?_
  refine ra_istore_n (L' := [(1, _), (0, _)]) E dX13_value_1 rfl (by decide) rfl ?_
  refine ra_aload_n E dX13_value_2 rfl 1 rfl ?_
  refine gf_X13_18 E lm13 fl_X13_311 dX13_value_3 ?_
  refine ra_istore_n (L' := [(2, _), (1, _), (0, _)]) E dX13_value_6 rfl (by decide) rfl ?_
  obtain ⟨n5, h⟩ := h
  exact ra_sub (L' := [(0, _), (1, _), (2, _)]) [2, 1, 0] rfl (l_X13_value_L7 E hr n5 _ _ _ h)
def f_X13_look_L14 (p1 : Int32) (p2 : Int32) (K : Int32 → TM → Prop) (x1 : Int32) (x2 : Int32) (z0 : Int32) (M : TM) : Prop := f_X13_check z0 (1 : Int32) M (fun M2 => f_X13_value M2 (fun r4 M3 => f_X13_inRange r4 x1 x2 M3 (fun r6 M5 => f_X13_check r6 (2 : Int32) M5 (fun M8 => ((¬ (M8 699 20) = 0 → K x1 M8) ∧ ((M8 699 20) = 0 → K r4 M8))))))
set_option maxRecDepth 100000 in
set_option maxHeartbeats 4000000 in
theorem l_X13_look_L14 {p : Program} {l : Launch} {e : Env} {s : State} {m : MethodId} {args : Array Value} {below : List Frame} {meth : Method} {c : Code} {D : va_G} {tc : Nat → ClassId} {ad : Nat → Nat} (p1 : Int32) (p2 : Int32) {K : Int32 → TM → Prop} (E : Ev p s m args meth c D tc ad RX13 cX13_look 4) (hr : meth.sig.returnType = (some .int)) : ∀ (x1 : Int32) (x2 : Int32) (z0 : Int32) (M : TM) , f_X13_look_L14 p1 p2 K x1 x2 z0 M → Wa p l e (rmD 1) s m args below meth c 0 0 (MQ below (va_Qi K (EndW D tc ad) (A0 ad s.heap.size)) args s 0 0 (A0 ad s.heap.size)) D tc ad 4 M 14 [(0, .ref (ad 699)), (1, .int x1), (2, .int x2)] [.int z0, .ref (ad 699)] := by
  intro x1 x2 z0 M  h
  unfold f_X13_look_L14 at h
  refine ra_iconst E dX13_look_14 ki_1 ?_
  refine ra_callVV (rest := []) E (c_X13_check _ _ _ _ h) lq_13 cv_X13_check ml_X13_349 (by decide) (lmM (by decide)) (fun R => ⟨_, cel_699 tc ad R⟩) rfl rfl rfl (Nat.le_of_ble_eq_true rfl) ⟨Nat.le_of_ble_eq_true rfl, Nat.le_of_ble_eq_true rfl⟩ ⟨Nat.zero_le _, Nat.zero_le _⟩ dX13_look_15 (fun M2 h => ?_)
  refine ra_aload_n E dX13_look_18 rfl 0 rfl ?_
  refine ra_callIV (rest := []) E (c_X13_value _ _ h) lq_13 cv_X13_value ml_X13_357 (by decide) (lmM (by decide)) (fun R => ⟨_, cel_699 tc ad R⟩) rfl rfl rfl (Nat.le_of_ble_eq_true rfl) ⟨Nat.le_of_ble_eq_true rfl, Nat.le_of_ble_eq_true rfl⟩ ⟨Nat.zero_le _, Nat.zero_le _⟩ dX13_look_19 (fun r4 M3 h => ?_)
  refine ra_istore_n (L' := [(3, _), (0, _), (1, _), (2, _)]) E dX13_look_22 rfl (by decide) rfl ?_
  refine ra_aload_n E dX13_look_23 rfl 1 rfl ?_
  refine ra_iload_n E dX13_look_24 rfl 0 rfl ?_
  refine ra_iload_n E dX13_look_25 rfl 2 rfl ?_
  refine ra_iload_n E dX13_look_26 rfl 3 rfl ?_
  refine ra_callIS (rest := [_]) E (c_X13_inRange _ _ _ _ _ h) lq_13 ct_X13_inRange ml_X13_97 (by decide) rfl rfl (Nat.le_of_ble_eq_true rfl) ⟨Nat.le_of_ble_eq_true rfl, Nat.le_of_ble_eq_true rfl⟩ ⟨Nat.zero_le _, Nat.zero_le _⟩ dX13_look_27 (fun r6 M5 h => ?_)
  obtain ⟨b7, h⟩ := h
  refine ra_iconst E dX13_look_30 ki_2 ?_
  refine ra_callVV (rest := []) E (c_X13_check _ _ _ _ h) lq_13 cv_X13_check ml_X13_349 (by decide) (lmM (by decide)) (fun R => ⟨_, cel_699 tc ad R⟩) rfl rfl rfl (Nat.le_of_ble_eq_true rfl) ⟨Nat.le_of_ble_eq_true rfl, Nat.le_of_ble_eq_true rfl⟩ ⟨Nat.zero_le _, Nat.zero_le _⟩ dX13_look_31 (fun M8 h => ?_)
  refine ra_aload_n E dX13_look_34 rfl 1 rfl ?_
  refine gf_X13_20 E lm13 fl_X13_323 dX13_look_35 ?_
  refine ra_if_ne (tgt := 45) E dX13_look_38 (by decide) (fun q9 => ?_) (fun q9 => ?_)
  · replace h := h.1 q9
    refine ra_iload_n E dX13_look_45 rfl 2 rfl ?_
    exact ra_iret E hr dX13_look_46 h
  · replace h := h.2 q9
    refine ra_iload_n E dX13_look_41 rfl 0 rfl ?_
    refine ra_goto (tgt := 46) E dX13_look_42 (by decide) ?_
    exact ra_iret E hr dX13_look_46 h
def f_X13_look (p1 : Int32) (p2 : Int32) (M : TM) (K : Int32 → TM → Prop) : Prop := ((¬ (M 699 19) = (2 : Int32) → f_X13_look_L14 p1 p2 K p1 p2 (0 : Int32) M) ∧ ((M 699 19) = (2 : Int32) → f_X13_look_L14 p1 p2 K p1 p2 (1 : Int32) M))
set_option maxRecDepth 100000 in
set_option maxHeartbeats 4000000 in
theorem c_X13_look {ad : Nat → Nat} (p1 : Int32) (p2 : Int32) (M : TM) (K : Int32 → TM → Prop) (h : f_X13_look p1 p2 M K) : MI yX13_look cX13_look 4 (some .int) 1 ad [.ref (ad 699), .int p1, .int p2] M K := by
  refine MI_of RX13 rfl (by decide +kernel) (Nat.le_of_ble_eq_true rfl) (fun p l e s m below meth c D tc E hr => ?_)
  unfold f_X13_look at h
  refine ra_aload_n E dX13_look_0 rfl 0 rfl ?_
  refine ra_aload_n E dX13_look_1 rfl 0 rfl ?_
  refine gf_X13_19 E lm13 fl_X13_314 dX13_look_2 ?_
  refine ra_iconst E dX13_look_5 ki_2 ?_
  refine ra_icmp_ne (tgt := 13) E dX13_look_6 (by decide) (fun q1 => ?_) (fun q1 => ?_)
  · replace h := h.1 q1
    refine ra_iconst E dX13_look_13 ki_0 ?_
    exact ra_sub (L' := [(0, _), (1, _), (2, _)]) [0, 1, 2] rfl (l_X13_look_L14 p1 p2 E hr _ _ _ _ h)
  · replace h := h.2 q1
    refine ra_iconst E dX13_look_9 ki_1 ?_
    refine ra_goto (tgt := 14) E dX13_look_10 (by decide) ?_
    exact ra_sub (L' := [(0, _), (1, _), (2, _)]) [0, 1, 2] rfl (l_X13_look_L14 p1 p2 E hr _ _ _ _ h)
def f_X13_readNumber (p1 : Int32) (p2 : Int32) (M : TM) (K : Int32 → TM → Prop) : Prop := f_X13_look p1 p2 M (fun r2 M1 => f_X13_advance M1 (fun M3 => K r2 M3))
set_option maxRecDepth 100000 in
set_option maxHeartbeats 4000000 in
theorem c_X13_readNumber {ad : Nat → Nat} (p1 : Int32) (p2 : Int32) (M : TM) (K : Int32 → TM → Prop) (h : f_X13_readNumber p1 p2 M K) : MI yX13_readNumber cX13_readNumber 4 (some .int) 4 ad [.ref (ad 699), .int p1, .int p2] M K := by
  refine MI_of RX13 rfl (by decide +kernel) (Nat.le_of_ble_eq_true rfl) (fun p l e s m below meth c D tc E hr => ?_)
  unfold f_X13_readNumber at h
  refine ra_aload_n E dX13_readNumber_0 rfl 0 rfl ?_
  refine ra_iload_n E dX13_readNumber_1 rfl 1 rfl ?_
  refine ra_iload_n E dX13_readNumber_2 rfl 2 rfl ?_
  refine ra_callIV (rest := []) E (c_X13_look _ _ _ _ h) lq_13 cv_X13_look ml_X13_360 (by decide) (lmM (by decide)) (fun R => ⟨_, cel_699 tc ad R⟩) rfl rfl rfl (Nat.le_of_ble_eq_true rfl) ⟨Nat.le_of_ble_eq_true rfl, Nat.le_of_ble_eq_true rfl⟩ ⟨Nat.zero_le _, Nat.zero_le _⟩ dX13_readNumber_3 (fun r2 M1 h => ?_)
  refine ra_istore_n (L' := [(3, _), (0, _), (1, _), (2, _)]) E dX13_readNumber_6 rfl (by decide) rfl ?_
  refine ra_aload_n E dX13_readNumber_7 rfl 1 rfl ?_
  refine ra_callVV (rest := []) E (c_X13_advance _ _ h) lq_13 cv_X13_advance ml_X13_353 (by decide) (lmM (by decide)) (fun R => ⟨_, cel_699 tc ad R⟩) rfl rfl rfl (Nat.le_of_ble_eq_true rfl) ⟨Nat.le_of_ble_eq_true rfl, Nat.le_of_ble_eq_true rfl⟩ ⟨Nat.zero_le _, Nat.zero_le _⟩ dX13_readNumber_8 (fun M3 h => ?_)
  refine ra_iload_n E dX13_readNumber_11 rfl 0 rfl ?_
  exact ra_iret E hr dX13_readNumber_12 h
def f_X13_errorCode  (M : TM) (K : Int32 → TM → Prop) : Prop := ∀ M1, M1 = u2 M 699 8 (0 : Int32) → K (M1 699 9) M1
set_option maxRecDepth 100000 in
set_option maxHeartbeats 4000000 in
theorem c_X13_errorCode {ad : Nat → Nat}  (M : TM) (K : Int32 → TM → Prop) (h : f_X13_errorCode  M K) : MI yX13_errorCode cX13_errorCode 1 (some .int) 0 ad [.ref (ad 699)] M K := by
  refine MI_of RX13 rfl (by decide +kernel) (Nat.le_of_ble_eq_true rfl) (fun p l e s m below meth c D tc E hr => ?_)
  unfold f_X13_errorCode at h
  refine ra_aload_n E dX13_errorCode_0 rfl 0 rfl ?_
  refine ra_iconst E dX13_errorCode_1 ki_0 ?_
  refine pf_X13_8 E lm13 fl_X13_79 dX13_errorCode_2 ?_
  replace h := h _ rfl
  refine ra_aload_n E dX13_errorCode_5 rfl 0 rfl ?_
  refine gf_X13_9 E lm13 fl_X13_363 dX13_errorCode_6 ?_
  exact ra_iret E hr dX13_errorCode_9 h
def f_X13_isFaulty  (M : TM) (K : Int32 → TM → Prop) : Prop := f_X13_finish M (fun r2 M1 => ∀ M3, M3 = u2 M1 699 9 r2 → (((M3 699 9) = 0 → K (0 : Int32) M3) ∧ (¬ (M3 699 9) = 0 → K (1 : Int32) M3)))
set_option maxRecDepth 100000 in
set_option maxHeartbeats 4000000 in
theorem c_X13_isFaulty {ad : Nat → Nat}  (M : TM) (K : Int32 → TM → Prop) (h : f_X13_isFaulty  M K) : MI yX13_isFaulty cX13_isFaulty 1 (some .boolean) 1 ad [.ref (ad 699)] M (fun r M' => (r = 0 ∨ r = 1) ∧ K r M') := by
  refine MI_of RX13 rfl (by decide +kernel) (Nat.le_of_ble_eq_true rfl) (fun p l e s m below meth c D tc E hr => ?_)
  unfold f_X13_isFaulty at h
  refine ra_aload_n E dX13_isFaulty_0 rfl 0 rfl ?_
  refine ra_aload_n E dX13_isFaulty_1 rfl 0 rfl ?_
  refine ra_callIV (rest := [_]) E (c_X13_finish _ _ h) lq_13 cv_X13_finish ml_X13_366 (by decide) (lmM (by decide)) (fun R => ⟨_, cel_699 tc ad R⟩) rfl rfl rfl (Nat.le_of_ble_eq_true rfl) ⟨Nat.le_of_ble_eq_true rfl, Nat.le_of_ble_eq_true rfl⟩ ⟨Nat.zero_le _, Nat.zero_le _⟩ dX13_isFaulty_2 (fun r2 M1 h => ?_)
  refine pf_X13_9 E lm13 fl_X13_363 dX13_isFaulty_5 ?_
  replace h := h _ rfl
  refine ra_aload_n E dX13_isFaulty_8 rfl 0 rfl ?_
  refine gf_X13_9 E lm13 fl_X13_363 dX13_isFaulty_9 ?_
  refine ra_if_eq (tgt := 19) E dX13_isFaulty_12 (by decide) (fun q4 => ?_) (fun q4 => ?_)
  · replace h := h.1 q4
    refine ra_iconst E dX13_isFaulty_19 ki_0 ?_
    exact ra_zret E hr rfl dX13_isFaulty_20 ⟨Or.inl rfl, h⟩
  · replace h := h.2 q4
    refine ra_iconst E dX13_isFaulty_15 ki_1 ?_
    refine ra_goto (tgt := 20) E dX13_isFaulty_16 (by decide) ?_
    exact ra_zret E hr rfl dX13_isFaulty_20 ⟨Or.inr rfl, h⟩
def f_X13_isLength (p1 : Int32) (M : TM) (K : Int32 → TM → Prop) : Prop := f_X13_inRange p1 (0 : Int32) (M 699 15) M (fun r2 M1 => K r2 M1)
set_option maxRecDepth 100000 in
set_option maxHeartbeats 4000000 in
theorem c_X13_isLength {ad : Nat → Nat} (p1 : Int32) (M : TM) (K : Int32 → TM → Prop) (h : f_X13_isLength p1 M K) : MI yX13_isLength cX13_isLength 2 (some .boolean) 1 ad [.ref (ad 699), .int p1] M (fun r M' => (r = 0 ∨ r = 1) ∧ K r M') := by
  refine MI_of RX13 rfl (by decide +kernel) (Nat.le_of_ble_eq_true rfl) (fun p l e s m below meth c D tc E hr => ?_)
  unfold f_X13_isLength at h
  refine ra_iload_n E dX13_isLength_0 rfl 1 rfl ?_
  refine ra_iconst E dX13_isLength_1 ki_0 ?_
  refine ra_aload_n E dX13_isLength_2 rfl 0 rfl ?_
  refine gf_X13_15 E lm13 fl_X13_299 dX13_isLength_3 ?_
  refine ra_callIS (rest := []) E (c_X13_inRange _ _ _ _ _ h) lq_13 ct_X13_inRange ml_X13_97 (by decide) rfl rfl (Nat.le_of_ble_eq_true rfl) ⟨Nat.le_of_ble_eq_true rfl, Nat.le_of_ble_eq_true rfl⟩ ⟨Nat.zero_le _, Nat.zero_le _⟩ dX13_isLength_6 (fun r2 M1 h => ?_)
  obtain ⟨b3, h⟩ := h
  exact ra_zret E hr (nz_01 b3) dX13_isLength_9 ⟨b3, h⟩
def f_X13_readSection_L42 (p1 : Int32) (K : TM → Prop) (x1 : Int32) (x2 : Int32) (z0 : Int32) (M : TM) : Prop := f_X13_check z0 (3 : Int32) M (fun M7 => f_X13_advance M7 (fun M8 => f_X13_readNumber (1 : Int32) (9 : Int32) M8 (fun r10 M9 => f_X13_expect (59 : Int32) M9 (fun M11 => ((¬ (M11 699 20) = 0 → K M11) ∧ ((M11 699 20) = 0 → vp_in (M11 699 6) 2 ∧ vp_in (x1 + x2) 377 ∧ ∀ M15, M15 = u2 M11 (700 + (M11 699 6).toNatClampNeg) (x1 + x2).toNatClampNeg r10 → K M15))))))
set_option maxRecDepth 100000 in
set_option maxHeartbeats 4000000 in
theorem l_X13_readSection_L42 {p : Program} {l : Launch} {e : Env} {s : State} {m : MethodId} {args : Array Value} {below : List Frame} {meth : Method} {c : Code} {D : va_G} {tc : Nat → ClassId} {ad : Nat → Nat} (p1 : Int32) {K : TM → Prop} (E : Ev p s m args meth c D tc ad RX13 cX13_readSection 4) (hr : meth.sig.returnType = none) : ∀ (x1 : Int32) (x2 : Int32) (z0 : Int32) (M : TM) , f_X13_readSection_L42 p1 K x1 x2 z0 M → Wa p l e (rmD 5) s m args below meth c 0 0 (MQ below (va_Qv K (EndW D tc ad) (A0 ad s.heap.size)) args s 0 0 (A0 ad s.heap.size)) D tc ad 4 M 42 [(0, .ref (ad 699)), (1, .int x1), (2, .int x2)] [.int z0, .ref (ad 699)] := by
  intro x1 x2 z0 M  h
  unfold f_X13_readSection_L42 at h
  refine ra_iconst E dX13_readSection_42 ki_3 ?_
  refine ra_callVV (rest := []) E (c_X13_check _ _ _ _ h) lq_13 cv_X13_check ml_X13_349 (by decide) (lmM (by decide)) (fun R => ⟨_, cel_699 tc ad R⟩) rfl rfl rfl (Nat.le_of_ble_eq_true rfl) ⟨Nat.le_of_ble_eq_true rfl, Nat.le_of_ble_eq_true rfl⟩ ⟨Nat.zero_le _, Nat.zero_le _⟩ dX13_readSection_43 (fun M7 h => ?_)
  refine ra_aload_n E dX13_readSection_46 rfl 0 rfl ?_
  refine ra_callVV (rest := []) E (c_X13_advance _ _ h) lq_13 cv_X13_advance ml_X13_353 (by decide) (lmM (by decide)) (fun R => ⟨_, cel_699 tc ad R⟩) rfl rfl rfl (Nat.le_of_ble_eq_true rfl) ⟨Nat.le_of_ble_eq_true rfl, Nat.le_of_ble_eq_true rfl⟩ ⟨Nat.zero_le _, Nat.zero_le _⟩ dX13_readSection_47 (fun M8 h => ?_)
  refine ra_aload_n E dX13_readSection_50 rfl 0 rfl ?_
  refine ra_iconst E dX13_readSection_51 ki_1 ?_
  refine ra_bipush E dX13_readSection_52 kb_9 ?_
  refine ra_callIV (rest := []) E (c_X13_readNumber _ _ _ _ h) lq_13 cv_X13_readNumber ml_X13_369 (by decide) (lmM (by decide)) (fun R => ⟨_, cel_699 tc ad R⟩) rfl rfl rfl (Nat.le_of_ble_eq_true rfl) ⟨Nat.le_of_ble_eq_true rfl, Nat.le_of_ble_eq_true rfl⟩ ⟨Nat.zero_le _, Nat.zero_le _⟩ dX13_readSection_54 (fun r10 M9 h => ?_)
  refine ra_istore_n (L' := [(3, _), (0, _), (1, _), (2, _)]) E dX13_readSection_57 rfl (by decide) rfl ?_
  refine ra_aload_n E dX13_readSection_58 rfl 1 rfl ?_
  refine ra_bipush E dX13_readSection_59 kb_59 ?_
  refine ra_callVV (rest := []) E (c_X13_expect _ _ _ h) lq_13 cv_X13_expect ml_X13_372 (by decide) (lmM (by decide)) (fun R => ⟨_, cel_699 tc ad R⟩) rfl rfl rfl (Nat.le_of_ble_eq_true rfl) ⟨Nat.le_of_ble_eq_true rfl, Nat.le_of_ble_eq_true rfl⟩ ⟨Nat.zero_le _, Nat.zero_le _⟩ dX13_readSection_61 (fun M11 h => ?_)
  refine ra_aload_n E dX13_readSection_64 rfl 1 rfl ?_
  refine gf_X13_20 E lm13 fl_X13_323 dX13_readSection_65 ?_
  refine ra_if_ne (tgt := 80) E dX13_readSection_68 (by decide) (fun q12 => ?_) (fun q12 => ?_)
  · replace h := h.1 q12
    exact ra_vret E hr dX13_readSection_80 h
  · replace h := h.2 q12
    refine ra_aload_n E dX13_readSection_71 rfl 1 rfl ?_
    obtain ⟨g13, h⟩ := h
    refine gf_X13_6 E lm13 fl_X13_28 dX13_readSection_72 ?_
    refine ra_iload_n E dX13_readSection_75 rfl 2 rfl ?_
    refine ra_iload_n E dX13_readSection_76 rfl 3 rfl ?_
    refine ra_iadd E dX13_readSection_77 ?_
    refine ra_iload_n E dX13_readSection_78 rfl 0 rfl ?_
    obtain ⟨g14, h⟩ := h
    refine ra_iast E (lmM (isRow_of g13).lt) (cel_row tc ad (isRow_of g13)) g14 dX13_readSection_79 ?_
    replace h := h _ rfl
    exact ra_vret E hr dX13_readSection_80 h
def f_X13_readSection_L37 (p1 : Int32) (K : TM → Prop) (x1 : Int32) (x2 : Int32) (M : TM) : Prop := f_X13_readSection_L42 p1 K x1 x2 (1 : Int32) M
set_option maxRecDepth 100000 in
set_option maxHeartbeats 4000000 in
theorem l_X13_readSection_L37 {p : Program} {l : Launch} {e : Env} {s : State} {m : MethodId} {args : Array Value} {below : List Frame} {meth : Method} {c : Code} {D : va_G} {tc : Nat → ClassId} {ad : Nat → Nat} (p1 : Int32) {K : TM → Prop} (E : Ev p s m args meth c D tc ad RX13 cX13_readSection 4) (hr : meth.sig.returnType = none) : ∀ (x1 : Int32) (x2 : Int32) (M : TM) , f_X13_readSection_L37 p1 K x1 x2 M → Wa p l e (rmD 5) s m args below meth c 0 0 (MQ below (va_Qv K (EndW D tc ad) (A0 ad s.heap.size)) args s 0 0 (A0 ad s.heap.size)) D tc ad 4 M 37 [(0, .ref (ad 699)), (1, .int x1), (2, .int x2)] [.ref (ad 699)] := by
  intro x1 x2 M  h
  unfold f_X13_readSection_L37 at h
  refine ra_iconst E dX13_readSection_37 ki_1 ?_
  refine ra_goto (tgt := 42) E dX13_readSection_38 (by decide) ?_
  exact ra_sub (L' := [(0, _), (1, _), (2, _)]) [0, 1, 2] rfl (l_X13_readSection_L42 p1 E hr _ _ _ _ h)
def f_X13_readSection (p1 : Int32) (M : TM) (K : TM → Prop) : Prop := f_X13_advance M (fun M1 => vp_in (M1 699 6) 2 ∧ vp_in (1 : Int32) 377 ∧ f_X13_look (0 : Int32) ((M1 (700 + (M1 699 6).toNatClampNeg) (1 : Int32).toNatClampNeg) - (2 : Int32)) M1 (fun r5 M4 => ((¬ (M4 699 20) = 0 → f_X13_readSection_L37 p1 K p1 r5 M4) ∧ ((M4 699 20) = 0 → vp_in (M4 699 6) 2 ∧ vp_in (p1 + r5) 377 ∧ ((¬ (M4 (700 + (M4 699 6).toNatClampNeg) (p1 + r5).toNatClampNeg) = 0 → f_X13_readSection_L42 p1 K p1 r5 (0 : Int32) M4) ∧ ((M4 (700 + (M4 699 6).toNatClampNeg) (p1 + r5).toNatClampNeg) = 0 → f_X13_readSection_L37 p1 K p1 r5 M4))))))
set_option maxRecDepth 100000 in
set_option maxHeartbeats 4000000 in
theorem c_X13_readSection {ad : Nat → Nat} (p1 : Int32) (M : TM) (K : TM → Prop) (h : f_X13_readSection p1 M K) : MV yX13_readSection cX13_readSection 4 5 ad [.ref (ad 699), .int p1] M K := by
  refine MV_of RX13 rfl (by decide +kernel) (Nat.le_of_ble_eq_true rfl) (fun p l e s m below meth c D tc E hr => ?_)
  unfold f_X13_readSection at h
  refine ra_aload_n E dX13_readSection_0 rfl 0 rfl ?_
  refine ra_callVV (rest := []) E (c_X13_advance _ _ h) lq_13 cv_X13_advance ml_X13_353 (by decide) (lmM (by decide)) (fun R => ⟨_, cel_699 tc ad R⟩) rfl rfl rfl (Nat.le_of_ble_eq_true rfl) ⟨Nat.le_of_ble_eq_true rfl, Nat.le_of_ble_eq_true rfl⟩ ⟨Nat.zero_le _, Nat.zero_le _⟩ dX13_readSection_1 (fun M1 h => ?_)
  refine ra_aload_n E dX13_readSection_4 rfl 0 rfl ?_
  refine ra_iconst E dX13_readSection_5 ki_0 ?_
  refine ra_aload_n E dX13_readSection_6 rfl 0 rfl ?_
  obtain ⟨g2, h⟩ := h
  refine gf_X13_6 E lm13 fl_X13_28 dX13_readSection_7 ?_
  refine ra_iconst E dX13_readSection_10 ki_1 ?_
  obtain ⟨g3, h⟩ := h
  refine ra_iald E (lmM (isRow_of g2).lt) (cel_row tc ad (isRow_of g2)) g3 dX13_readSection_11 ?_
  refine ra_iconst E dX13_readSection_12 ki_2 ?_
  refine ra_isub E dX13_readSection_13 ?_
  refine ra_callIV (rest := []) E (c_X13_look _ _ _ _ h) lq_13 cv_X13_look ml_X13_360 (by decide) (lmM (by decide)) (fun R => ⟨_, cel_699 tc ad R⟩) rfl rfl rfl (Nat.le_of_ble_eq_true rfl) ⟨Nat.le_of_ble_eq_true rfl, Nat.le_of_ble_eq_true rfl⟩ ⟨Nat.zero_le _, Nat.zero_le _⟩ dX13_readSection_14 (fun r5 M4 h => ?_)
  refine ra_istore_n (L' := [(2, _), (0, _), (1, _)]) E dX13_readSection_17 rfl (by decide) rfl ?_
  refine ra_aload_n E dX13_readSection_18 rfl 1 rfl ?_
  refine ra_aload_n E dX13_readSection_19 rfl 1 rfl ?_
  refine gf_X13_20 E lm13 fl_X13_323 dX13_readSection_20 ?_
  refine ra_if_ne (tgt := 37) E dX13_readSection_23 (by decide) (fun q6 => ?_) (fun q6 => ?_)
  · replace h := h.1 q6
    exact ra_sub (L' := [(0, _), (1, _), (2, _)]) [1, 2, 0] rfl (l_X13_readSection_L37 p1 E hr _ _ _ h)
  · replace h := h.2 q6
    refine ra_aload_n E dX13_readSection_26 rfl 1 rfl ?_
    obtain ⟨g16, h⟩ := h
    refine gf_X13_6 E lm13 fl_X13_28 dX13_readSection_27 ?_
    refine ra_iload_n E dX13_readSection_30 rfl 2 rfl ?_
    refine ra_iload_n E dX13_readSection_31 rfl 0 rfl ?_
    refine ra_iadd E dX13_readSection_32 ?_
    obtain ⟨g17, h⟩ := h
    refine ra_iald E (lmM (isRow_of g16).lt) (cel_row tc ad (isRow_of g16)) g17 dX13_readSection_33 ?_
    refine ra_if_ne (tgt := 41) E dX13_readSection_34 (by decide) (fun q18 => ?_) (fun q18 => ?_)
    · replace h := h.1 q18
      refine ra_iconst E dX13_readSection_41 ki_0 ?_
      exact ra_sub (L' := [(0, _), (1, _), (2, _)]) [1, 2, 0] rfl (l_X13_readSection_L42 p1 E hr _ _ _ _ h)
    · replace h := h.2 q18
      exact ra_sub (L' := [(0, _), (1, _), (2, _)]) [1, 2, 0] rfl (l_X13_readSection_L37 p1 E hr _ _ _ h)
def f_X13_readFirst (p1 : Int32) (M : TM) (K : Int32 → TM → Prop) : Prop := ((p1 = 1 → f_X13_readNumber (0 : Int32) (15 : Int32) M (fun r3 M2 => K r3 M2)) ∧ (p1 = 3 → f_X13_readNumber (0 : Int32) (29 : Int32) M (fun r5 M4 => K r5 M4)) ∧ (p1 = 7 → f_X13_readNumber (1 : Int32) (60 : Int32) M (fun r7 M6 => K r7 M6)) ∧ (¬ p1 = 1 → ¬ p1 = 3 → ¬ p1 = 7 → f_X13_readNumber (0 : Int32) (4 : Int32) M (fun r9 M8 => K r9 M8)))
set_option maxRecDepth 100000 in
set_option maxHeartbeats 4000000 in
theorem c_X13_readFirst {ad : Nat → Nat} (p1 : Int32) (M : TM) (K : Int32 → TM → Prop) (h : f_X13_readFirst p1 M K) : MI yX13_readFirst cX13_readFirst 2 (some .int) 5 ad [.ref (ad 699), .int p1] M K := by
  refine MI_of RX13 rfl (by decide +kernel) (Nat.le_of_ble_eq_true rfl) (fun p l e s m below meth c D tc E hr => ?_)
  unfold f_X13_readFirst at h
  refine ra_iload_n E dX13_readFirst_0 rfl 1 rfl ?_
  by_cases q1_0 : p1 = 1
  · replace h := h.1 q1_0
    refine ra_lookup (tgt := 36) (off := 35) E dX13_readFirst_1 (by decide) (by rw [q1_0]; decide) (by decide) ?_
    refine ra_aload_n E dX13_readFirst_36 rfl 0 rfl ?_
    refine ra_iconst E dX13_readFirst_37 ki_0 ?_
    refine ra_bipush E dX13_readFirst_38 kb_15 ?_
    refine ra_callIV (rest := []) E (c_X13_readNumber _ _ _ _ h) lq_13 cv_X13_readNumber ml_X13_369 (by decide) (lmM (by decide)) (fun R => ⟨_, cel_699 tc ad R⟩) rfl rfl rfl (Nat.le_of_ble_eq_true rfl) ⟨Nat.le_of_ble_eq_true rfl, Nat.le_of_ble_eq_true rfl⟩ ⟨Nat.zero_le _, Nat.zero_le _⟩ dX13_readFirst_40 (fun r11 M10 h => ?_)
    exact ra_iret E hr dX13_readFirst_43 h
  by_cases q1_1 : p1 = 3
  · replace h := h.2.1 q1_1
    refine ra_lookup (tgt := 44) (off := 43) E dX13_readFirst_1 (by decide) (by rw [q1_1]; decide) (by decide) ?_
    refine ra_aload_n E dX13_readFirst_44 rfl 0 rfl ?_
    refine ra_iconst E dX13_readFirst_45 ki_0 ?_
    refine ra_bipush E dX13_readFirst_46 kb_29 ?_
    refine ra_callIV (rest := []) E (c_X13_readNumber _ _ _ _ h) lq_13 cv_X13_readNumber ml_X13_369 (by decide) (lmM (by decide)) (fun R => ⟨_, cel_699 tc ad R⟩) rfl rfl rfl (Nat.le_of_ble_eq_true rfl) ⟨Nat.le_of_ble_eq_true rfl, Nat.le_of_ble_eq_true rfl⟩ ⟨Nat.zero_le _, Nat.zero_le _⟩ dX13_readFirst_48 (fun r13 M12 h => ?_)
    exact ra_iret E hr dX13_readFirst_51 h
  by_cases q1_2 : p1 = 7
  · replace h := h.2.2.1 q1_2
    refine ra_lookup (tgt := 52) (off := 51) E dX13_readFirst_1 (by decide) (by rw [q1_2]; decide) (by decide) ?_
    refine ra_aload_n E dX13_readFirst_52 rfl 0 rfl ?_
    refine ra_iconst E dX13_readFirst_53 ki_1 ?_
    refine ra_bipush E dX13_readFirst_54 kb_60 ?_
    refine ra_callIV (rest := []) E (c_X13_readNumber _ _ _ _ h) lq_13 cv_X13_readNumber ml_X13_369 (by decide) (lmM (by decide)) (fun R => ⟨_, cel_699 tc ad R⟩) rfl rfl rfl (Nat.le_of_ble_eq_true rfl) ⟨Nat.le_of_ble_eq_true rfl, Nat.le_of_ble_eq_true rfl⟩ ⟨Nat.zero_le _, Nat.zero_le _⟩ dX13_readFirst_56 (fun r15 M14 h => ?_)
    exact ra_iret E hr dX13_readFirst_59 h
  replace h := h.2.2.2 q1_0 q1_1 q1_2
  refine ra_lookup (tgt := 60) (off := 59) E dX13_readFirst_1 (by decide) (by show Op.lookupswitch.offset [(1, 35), (3, 43), (7, 51)] 59 _ = _; rw [Op.lookupswitch.offset_cons, if_neg (lk_ne q1_0 (by decide)), Op.lookupswitch.offset_cons, if_neg (lk_ne q1_1 (by decide)), Op.lookupswitch.offset_cons, if_neg (lk_ne q1_2 (by decide)), Op.lookupswitch.offset_nil]) (by decide) ?_
  refine ra_aload_n E dX13_readFirst_60 rfl 0 rfl ?_
  refine ra_iconst E dX13_readFirst_61 ki_0 ?_
  refine ra_iconst E dX13_readFirst_62 ki_4 ?_
  refine ra_callIV (rest := []) E (c_X13_readNumber _ _ _ _ h) lq_13 cv_X13_readNumber ml_X13_369 (by decide) (lmM (by decide)) (fun R => ⟨_, cel_699 tc ad R⟩) rfl rfl rfl (Nat.le_of_ble_eq_true rfl) ⟨Nat.le_of_ble_eq_true rfl, Nat.le_of_ble_eq_true rfl⟩ ⟨Nat.zero_le _, Nat.zero_le _⟩ dX13_readFirst_63 (fun r9 M8 h => ?_)
  exact ra_iret E hr dX13_readFirst_66 h
def f_X13_readSecond (p1 : Int32) (M : TM) (K : Int32 → TM → Prop) : Prop := ((p1 = 0 → f_X13_readNumber (0 : Int32) (15 : Int32) M (fun r3 M2 => K r3 M2)) ∧ (p1 = 1 → f_X13_readNumber (1 : Int32) (4 : Int32) M (fun r5 M4 => K r5 M4)) ∧ (p1 = 2 → f_X13_readNumber (0 : Int32) (29 : Int32) M (fun r7 M6 => K r7 M6)) ∧ (p1 = 3 → K (0 : Int32) M) ∧ (p1 = 4 → f_X13_readNumber (1 : Int32) (99 : Int32) M (fun r9 M8 => K r9 M8)) ∧ (¬ p1 = 0 → ¬ p1 = 1 → ¬ p1 = 2 → ¬ p1 = 3 → ¬ p1 = 4 → K (0 : Int32) M))
set_option maxRecDepth 100000 in
set_option maxHeartbeats 4000000 in
theorem c_X13_readSecond {ad : Nat → Nat} (p1 : Int32) (M : TM) (K : Int32 → TM → Prop) (h : f_X13_readSecond p1 M K) : MI yX13_readSecond cX13_readSecond 2 (some .int) 5 ad [.ref (ad 699), .int p1] M K := by
  refine MI_of RX13 rfl (by decide +kernel) (Nat.le_of_ble_eq_true rfl) (fun p l e s m below meth c D tc E hr => ?_)
  unfold f_X13_readSecond at h
  refine ra_iload_n E dX13_readSecond_0 rfl 1 rfl ?_
  by_cases q1_0 : p1 = 0
  · replace h := h.1 q1_0
    refine ra_tableIn (tgt := 36) (off := 35) E dX13_readSecond_1 (by rw [q1_0]; decide) (by rw [q1_0]; decide) (by rw [q1_0]; decide) (by decide) ?_
    refine ra_aload_n E dX13_readSecond_36 rfl 0 rfl ?_
    refine ra_iconst E dX13_readSecond_37 ki_0 ?_
    refine ra_bipush E dX13_readSecond_38 kb_15 ?_
    refine ra_callIV (rest := []) E (c_X13_readNumber _ _ _ _ h) lq_13 cv_X13_readNumber ml_X13_369 (by decide) (lmM (by decide)) (fun R => ⟨_, cel_699 tc ad R⟩) rfl rfl rfl (Nat.le_of_ble_eq_true rfl) ⟨Nat.le_of_ble_eq_true rfl, Nat.le_of_ble_eq_true rfl⟩ ⟨Nat.zero_le _, Nat.zero_le _⟩ dX13_readSecond_40 (fun r11 M10 h => ?_)
    exact ra_iret E hr dX13_readSecond_43 h
  by_cases q1_1 : p1 = 1
  · replace h := h.2.1 q1_1
    refine ra_tableIn (tgt := 44) (off := 43) E dX13_readSecond_1 (by rw [q1_1]; decide) (by rw [q1_1]; decide) (by rw [q1_1]; decide) (by decide) ?_
    refine ra_aload_n E dX13_readSecond_44 rfl 0 rfl ?_
    refine ra_iconst E dX13_readSecond_45 ki_1 ?_
    refine ra_iconst E dX13_readSecond_46 ki_4 ?_
    refine ra_callIV (rest := []) E (c_X13_readNumber _ _ _ _ h) lq_13 cv_X13_readNumber ml_X13_369 (by decide) (lmM (by decide)) (fun R => ⟨_, cel_699 tc ad R⟩) rfl rfl rfl (Nat.le_of_ble_eq_true rfl) ⟨Nat.le_of_ble_eq_true rfl, Nat.le_of_ble_eq_true rfl⟩ ⟨Nat.zero_le _, Nat.zero_le _⟩ dX13_readSecond_47 (fun r13 M12 h => ?_)
    exact ra_iret E hr dX13_readSecond_50 h
  by_cases q1_2 : p1 = 2
  · replace h := h.2.2.1 q1_2
    refine ra_tableIn (tgt := 51) (off := 50) E dX13_readSecond_1 (by rw [q1_2]; decide) (by rw [q1_2]; decide) (by rw [q1_2]; decide) (by decide) ?_
    refine ra_aload_n E dX13_readSecond_51 rfl 0 rfl ?_
    refine ra_iconst E dX13_readSecond_52 ki_0 ?_
    refine ra_bipush E dX13_readSecond_53 kb_29 ?_
    refine ra_callIV (rest := []) E (c_X13_readNumber _ _ _ _ h) lq_13 cv_X13_readNumber ml_X13_369 (by decide) (lmM (by decide)) (fun R => ⟨_, cel_699 tc ad R⟩) rfl rfl rfl (Nat.le_of_ble_eq_true rfl) ⟨Nat.le_of_ble_eq_true rfl, Nat.le_of_ble_eq_true rfl⟩ ⟨Nat.zero_le _, Nat.zero_le _⟩ dX13_readSecond_55 (fun r15 M14 h => ?_)
    exact ra_iret E hr dX13_readSecond_58 h
  by_cases q1_3 : p1 = 3
  · replace h := h.2.2.2.1 q1_3
    refine ra_tableIn (tgt := 67) (off := 66) E dX13_readSecond_1 (by rw [q1_3]; decide) (by rw [q1_3]; decide) (by rw [q1_3]; decide) (by decide) ?_
    refine ra_iconst E dX13_readSecond_67 ki_0 ?_
    exact ra_iret E hr dX13_readSecond_68 h
  by_cases q1_4 : p1 = 4
  · replace h := h.2.2.2.2.1 q1_4
    refine ra_tableIn (tgt := 59) (off := 58) E dX13_readSecond_1 (by rw [q1_4]; decide) (by rw [q1_4]; decide) (by rw [q1_4]; decide) (by decide) ?_
    refine ra_aload_n E dX13_readSecond_59 rfl 0 rfl ?_
    refine ra_iconst E dX13_readSecond_60 ki_1 ?_
    refine ra_bipush E dX13_readSecond_61 kb_99 ?_
    refine ra_callIV (rest := []) E (c_X13_readNumber _ _ _ _ h) lq_13 cv_X13_readNumber ml_X13_369 (by decide) (lmM (by decide)) (fun R => ⟨_, cel_699 tc ad R⟩) rfl rfl rfl (Nat.le_of_ble_eq_true rfl) ⟨Nat.le_of_ble_eq_true rfl, Nat.le_of_ble_eq_true rfl⟩ ⟨Nat.zero_le _, Nat.zero_le _⟩ dX13_readSecond_63 (fun r17 M16 h => ?_)
    exact ra_iret E hr dX13_readSecond_66 h
  replace h := h.2.2.2.2.2 q1_0 q1_1 q1_2 q1_3 q1_4
  refine ra_tableOut (tgt := 67) E dX13_readSecond_1 (by have := lk_ne q1_0 (by decide : (0 : Int32).toInt = 0); have := lk_ne q1_1 (by decide : (1 : Int32).toInt = 1); have := lk_ne q1_2 (by decide : (2 : Int32).toInt = 2); have := lk_ne q1_3 (by decide : (3 : Int32).toInt = 3); have := lk_ne q1_4 (by decide : (4 : Int32).toInt = 4); omega) (by decide) ?_
  refine ra_iconst E dX13_readSecond_67 ki_0 ?_
  exact ra_iret E hr dX13_readSecond_68 h
def f_L_outputByte (p1 : Int32) (M : TM) (K : Int32 → TM → Prop) : Prop := f_X12_outputByte p1 M (fun r2 M1 => ∀ M4, M4 = u2 M1 710 0 r2 → K (0 : Int32) M4) (fun E9 M3 => (E9 = "java/lang/IndexOutOfBoundsException" ∧ K (1 : Int32) M3))
set_option maxRecDepth 100000 in
set_option maxHeartbeats 4000000 in
theorem c_L_outputByte {ad : Nat → Nat} (p1 : Int32) (M : TM) (K : Int32 → TM → Prop) (h : f_L_outputByte p1 M K) : XW yL_outputByte cL_outputByte 4 (some .int) [(0, 9, 12, 18)] 7 1 ad [.ref (ad 0), .int p1, .ref (ad 710)] M K := by
  refine XW_of RL rfl (by decide +kernel) (Nat.le_of_ble_eq_true rfl) (fun p l e s m below meth c D tc E hr hfl hTab => ?_)
  unfold f_L_outputByte at h
  refine ra_aload_n E dL_outputByte_0 rfl 2 rfl ?_
  refine ra_iconst E dL_outputByte_1 ki_0 ?_
  refine ra_aload_n E dL_outputByte_2 rfl 0 rfl ?_
  refine ra_iload_n E dL_outputByte_3 rfl 1 rfl ?_
  refine rx_callIVH (rest := [_, _]) E hfl (c_X12_outputByte _ _ _ _ h) (lq_X12 _) cv_X12_outputByte ml_L_145 (by decide) (lm (by decide)) (fun R => ⟨_, cel_0 tc ad R⟩) rfl rfl rfl (Nat.le_of_ble_eq_true rfl) ⟨Nat.le_of_ble_eq_true rfl, Nat.le_of_ble_eq_true rfl⟩ ⟨Nat.le_of_ble_eq_true rfl, Nat.le_of_ble_eq_true rfl⟩ dL_outputByte_4 (fun E9 M3 hX => ?_) (fun r2 M1 h => ?_)
  · obtain ⟨rfl, h⟩ := hX
    · exact rx_catch hTab E [] [] ⟨0, 9, 12, 18⟩ rfl (fun _ hz => absurd hz List.not_mem_nil) (by decide +kernel) (by decide) kl_18 (by decide +kernel) (fun q5 => by
        refine ra_astore_n (L' := [(3, _), (0, _), (1, _), (2, _)]) E dL_outputByte_12 rfl (by decide) rfl ?_
        refine ra_iconst E dL_outputByte_13 ki_1 ?_
        exact rx_iret E hr dL_outputByte_14 ⟨Nat.le_of_ble_eq_true rfl, Nat.le_of_ble_eq_true rfl⟩ h
        )
  · skip
    refine ra_i2l E dL_outputByte_7 rfl ?_
    refine ra_last E (Nat.le_of_ble_eq_true rfl) rfl dL_outputByte_8 ?_
    replace h := h _ rfl
    refine ra_goto (tgt := 15) E dL_outputByte_9 (by decide) ?_
    refine ra_iconst E dL_outputByte_15 ki_0 ?_
    exact rx_iret E hr dL_outputByte_16 ⟨Nat.le_of_ble_eq_true rfl, Nat.le_of_ble_eq_true rfl⟩ h
def f_X2_clear_L73 (a0 : Nat) (p1 : Int32) (K : TM → Prop) : Nat → Int32 → TM → Prop
  | 0, _, _ => False
  | n + 1, x2, M => (((16 : Int32) ≤ x2 → K M) ∧ (¬ (16 : Int32) ≤ x2 → vp_in x2 16 ∧ ∀ M13, M13 = u2 M (a0 + 2) x2.toNatClampNeg (0 : Int32) → vp_in x2 16 ∧ ∀ M15, M15 = u2 M13 (a0 + 3) x2.toNatClampNeg (0 : Int32) → f_X2_clear_L73 a0 p1 K n (x2 + 1) M15))
set_option maxRecDepth 100000 in
set_option maxHeartbeats 4000000 in
theorem l_X2_clear_L73 {p : Program} {l : Launch} {e : Env} {s : State} {m : MethodId} {args : Array Value} {below : List Frame} {meth : Method} {c : Code} {D : va_G} {tc : Nat → ClassId} {ad : Nat → Nat} (a0 : Nat) (h0 : IsCanal a0) (p1 : Int32) {K : TM → Prop} (E : Ev p s m args meth c D tc ad RX2 cX2_clear 3) (hr : meth.sig.returnType = none) : ∀ (n : Nat) (x2 : Int32) (M : TM) , f_X2_clear_L73 a0 p1 K n x2 M → Wa p l e (rmD 1) s m args below meth c 0 0 (MQ below (va_Qv K (EndW D tc ad) (A0 ad s.heap.size)) args s 0 0 (A0 ad s.heap.size)) D tc ad 3 M 73 [(0, .ref (ad a0)), (2, .int x2)] [] := by
  intro n
  induction n with
  | zero => intro x2 M  h; exact h.elim
  | succ n ih =>
    intro x2 M  h
    unfold f_X2_clear_L73 at h
    refine ra_iload_n E dX2_clear_73 rfl 1 rfl ?_
    refine ra_aload_n E dX2_clear_74 rfl 0 rfl ?_
    refine gf_X2_2 E h0 fl_X2_21 dX2_clear_75 ?_
    refine ra_alen (n := 16) (v := 16) E (lm (h0.add (by decide))) (fun R => ⟨_, (cel_used tc ad h0) R, rfl⟩) rfl (by decide) dX2_clear_78 ?_
    refine ra_icmp_ge (tgt := 102) E dX2_clear_79 (by decide) (fun q11 => ?_) (fun q11 => ?_)
    · replace h := h.1 q11
      exact ra_vret E hr dX2_clear_102 h
    · replace h := h.2 q11
      refine ra_aload_n E dX2_clear_82 rfl 0 rfl ?_
      refine gf_X2_2 E h0 fl_X2_21 dX2_clear_83 ?_
      refine ra_iload_n E dX2_clear_86 rfl 1 rfl ?_
      refine ra_iconst E dX2_clear_87 ki_0 ?_
      obtain ⟨g12, h⟩ := h
      refine ra_iast E (lm (h0.add (by decide))) (cel_used tc ad h0) g12 dX2_clear_88 ?_
      replace h := h _ rfl
      refine ra_aload_n E dX2_clear_89 rfl 0 rfl ?_
      refine gf_X2_3 E h0 fl_X2_25 dX2_clear_90 ?_
      refine ra_iload_n E dX2_clear_93 rfl 1 rfl ?_
      refine ra_iconst E dX2_clear_94 ki_0 ?_
      obtain ⟨g14, h⟩ := h
      refine ra_iast E (lm (h0.add (by decide))) (cel_eat tc ad h0) g14 dX2_clear_95 ?_
      replace h := h _ rfl
      refine ra_iinc1 (L' := [(2, _), (0, _)]) E dX2_clear_96 1 rfl (by decide) rfl ?_
      refine ra_goto (tgt := 73) E dX2_clear_99 (by decide) ?_
      exact ra_sub (L' := [(0, _), (2, _)]) [1, 0] rfl (ih _ _ h)
def f_X2_clear_L47 (a0 : Nat) (p1 : Int32) (K : TM → Prop) : Nat → Int32 → TM → Prop
  | 0, _, _ => False
  | n + 1, x2, M => (((15 : Int32) ≤ x2 → ∃ n, f_X2_clear_L73 a0 p1 K n (0 : Int32) M) ∧ (¬ (15 : Int32) ≤ x2 → vp_in x2 15 ∧ f_X9_clear (a0 + 6 + x2.toNatClampNeg) M (fun M18 => f_X2_clear_L47 a0 p1 K n (x2 + 1) M18)))
set_option maxRecDepth 100000 in
set_option maxHeartbeats 4000000 in
theorem l_X2_clear_L47 {p : Program} {l : Launch} {e : Env} {s : State} {m : MethodId} {args : Array Value} {below : List Frame} {meth : Method} {c : Code} {D : va_G} {tc : Nat → ClassId} {ad : Nat → Nat} (a0 : Nat) (h0 : IsCanal a0) (p1 : Int32) {K : TM → Prop} (E : Ev p s m args meth c D tc ad RX2 cX2_clear 3) (hr : meth.sig.returnType = none) : ∀ (n : Nat) (x2 : Int32) (M : TM) , f_X2_clear_L47 a0 p1 K n x2 M → Wa p l e (rmD 1) s m args below meth c 0 0 (MQ below (va_Qv K (EndW D tc ad) (A0 ad s.heap.size)) args s 0 0 (A0 ad s.heap.size)) D tc ad 3 M 47 [(0, .ref (ad a0)), (2, .int x2)] [] := by
  intro n
  induction n with
  | zero => intro x2 M  h; exact h.elim
  | succ n ih =>
    intro x2 M  h
    unfold f_X2_clear_L47 at h
    refine ra_iload_n E dX2_clear_47 rfl 1 rfl ?_
    refine ra_aload_n E dX2_clear_48 rfl 0 rfl ?_
    refine gf_X2_1 E h0 fl_X2_17 dX2_clear_49 ?_
    refine ra_alen (n := 15) (v := 15) E (lm (h0.add (by decide))) (fun R => ⟨_, (cel_secs tc ad h0) R, rfl⟩) rfl (by decide) dX2_clear_52 ?_
    refine ra_icmp_ge (tgt := 71) E dX2_clear_53 (by decide) (fun q10 => ?_) (fun q10 => ?_)
    · replace h := h.1 q10
      refine ra_iconst E dX2_clear_71 ki_0 ?_
      refine ra_istore_n (L' := [(2, _), (0, _)]) E dX2_clear_72 rfl (by decide) rfl ?_
      obtain ⟨n16, h⟩ := h
      exact ra_sub (L' := [(0, _), (2, _)]) [1, 0] rfl (l_X2_clear_L73 a0 h0 p1 E hr n16 _ _ h)
    · replace h := h.2 q10
      refine ra_aload_n E dX2_clear_56 rfl 0 rfl ?_
      refine gf_X2_1 E h0 fl_X2_17 dX2_clear_57 ?_
      refine ra_iload_n E dX2_clear_60 rfl 1 rfl ?_
      obtain ⟨g17, h⟩ := h
      refine ra_aald E (lm (h0.add (by decide))) (cel_secs tc ad h0) rfl g17 dX2_clear_61 ?_
      refine ra_callVV (rest := []) E (c_X9_clear _ (isSec_of h0 g17) _ _ h) (lq_X9 _) cv_X9_clear ml_X2_67 (by decide) (lm (isSec_of h0 g17).lt) (fun R => ⟨_, cel_sec tc ad (isSec_of h0 g17) R⟩) rfl rfl rfl (Nat.le_of_ble_eq_true rfl) ⟨Nat.le_of_ble_eq_true rfl, Nat.le_of_ble_eq_true rfl⟩ ⟨Nat.zero_le _, Nat.zero_le _⟩ dX2_clear_62 (fun M18 h => ?_)
      refine ra_iinc1 (L' := [(2, _), (0, _)]) E dX2_clear_65 1 rfl (by decide) rfl ?_
      refine ra_goto (tgt := 47) E dX2_clear_68 (by decide) ?_
      exact ra_sub (L' := [(0, _), (2, _)]) [1, 0] rfl (ih _ _ h)
def f_X2_clear (a0 : Nat) (p1 : Int32) (M : TM) (K : TM → Prop) : Prop := ∀ M1, M1 = u2 M a0 0 p1 → ∀ M2, M2 = u2 M1 a0 4 (0 : Int32) → ∀ M3, M3 = u2 M2 a0 6 (0 : Int32) → ∀ M4, M4 = u2 M3 a0 8 (0 : Int32) → ∀ M5, M5 = u2 M4 a0 9 (0 : Int32) → ∀ M6, M6 = u2 M5 a0 10 (0 : Int32) → ∀ M7, M7 = u2 M6 a0 11 (0 : Int32) → ∀ M8, M8 = u2 M7 a0 12 (0 : Int32) → ∀ M9, M9 = u2 M8 a0 13 (0 : Int32) → ∃ n, f_X2_clear_L47 a0 p1 K n (0 : Int32) M9
set_option maxRecDepth 100000 in
set_option maxHeartbeats 4000000 in
theorem c_X2_clear {ad : Nat → Nat} (a0 : Nat) (h0 : IsCanal a0) (p1 : Int32) (M : TM) (K : TM → Prop) (h : f_X2_clear a0 p1 M K) : MV yX2_clear cX2_clear 3 1 ad [.ref (ad a0), .int p1] M K := by
  refine MV_of RX2 rfl (by decide +kernel) (Nat.le_of_ble_eq_true rfl) (fun p l e s m below meth c D tc E hr => ?_)
  unfold f_X2_clear at h
  refine ra_aload_n E dX2_clear_0 rfl 0 rfl ?_
  refine ra_iload_n E dX2_clear_1 rfl 1 rfl ?_
  refine pf_X2_0 E h0 fl_X2_9 dX2_clear_2 ?_
  replace h := h _ rfl
  refine ra_aload_n E dX2_clear_5 rfl 0 rfl ?_
  refine ra_iconst E dX2_clear_6 ki_0 ?_
  refine pf_X2_4 E h0 fl_X2_28 dX2_clear_7 ?_
  replace h := h _ rfl
  refine ra_aload_n E dX2_clear_10 rfl 0 rfl ?_
  refine ra_iconst E dX2_clear_11 ki_0 ?_
  refine pf_X2_6 E h0 fl_X2_37 dX2_clear_12 ?_
  replace h := h _ rfl
  refine ra_aload_n E dX2_clear_15 rfl 0 rfl ?_
  refine ra_iconst E dX2_clear_16 ki_0 ?_
  refine pf_X2_8 E h0 fl_X2_46 dX2_clear_17 ?_
  replace h := h _ rfl
  refine ra_aload_n E dX2_clear_20 rfl 0 rfl ?_
  refine ra_iconst E dX2_clear_21 ki_0 ?_
  refine pf_X2_9 E h0 fl_X2_49 dX2_clear_22 ?_
  replace h := h _ rfl
  refine ra_aload_n E dX2_clear_25 rfl 0 rfl ?_
  refine ra_iconst E dX2_clear_26 ki_0 ?_
  refine pf_X2_10 E h0 fl_X2_52 dX2_clear_27 ?_
  replace h := h _ rfl
  refine ra_aload_n E dX2_clear_30 rfl 0 rfl ?_
  refine ra_iconst E dX2_clear_31 ki_0 ?_
  refine pf_X2_11 E h0 fl_X2_55 dX2_clear_32 ?_
  replace h := h _ rfl
  refine ra_aload_n E dX2_clear_35 rfl 0 rfl ?_
  refine ra_iconst E dX2_clear_36 ki_0 ?_
  refine pf_X2_12 E h0 fl_X2_58 dX2_clear_37 ?_
  replace h := h _ rfl
  refine ra_aload_n E dX2_clear_40 rfl 0 rfl ?_
  refine ra_iconst E dX2_clear_41 ki_0 ?_
  refine pf_X2_13 E h0 fl_X2_61 dX2_clear_42 ?_
  replace h := h _ rfl
  refine ra_iconst E dX2_clear_45 ki_0 ?_
  refine ra_istore_n (L' := [(2, _), (0, _), (1, _)]) E dX2_clear_46 rfl (by decide) rfl ?_
  obtain ⟨n19, h⟩ := h
  exact ra_sub (L' := [(0, _), (2, _)]) [1, 0] rfl (l_X2_clear_L47 a0 h0 p1 E hr n19 _ _ h)
def f_X2_copyFrom_L173 (a0 : Nat) (a1 : Nat) (K : TM → Prop) : Nat → Int32 → TM → Prop
  | 0, _, _ => False
  | n + 1, x2, M => (((M a0 6) ≤ x2 → K M) ∧ (¬ (M a0 6) ≤ x2 → vp_in x2 30 ∧ vp_in x2 30 ∧ f_X6_copyFrom (a0 + 31 + x2.toNatClampNeg) (a1 + 31 + x2.toNatClampNeg) M (fun M19 => f_X2_copyFrom_L173 a0 a1 K n (x2 + 1) M19)))
set_option maxRecDepth 100000 in
set_option maxHeartbeats 4000000 in
theorem l_X2_copyFrom_L173 {p : Program} {l : Launch} {e : Env} {s : State} {m : MethodId} {args : Array Value} {below : List Frame} {meth : Method} {c : Code} {D : va_G} {tc : Nat → ClassId} {ad : Nat → Nat} (a0 : Nat) (h0 : IsCanal a0) (a1 : Nat) (h1 : IsCanal a1) {K : TM → Prop} (E : Ev p s m args meth c D tc ad RX2 cX2_copyFrom 3) (hr : meth.sig.returnType = none) : ∀ (n : Nat) (x2 : Int32) (M : TM) , f_X2_copyFrom_L173 a0 a1 K n x2 M → Wa p l e (rmD 2) s m args below meth c 0 0 (MQ below (va_Qv K (EndW D tc ad) (A0 ad s.heap.size)) args s 0 0 (A0 ad s.heap.size)) D tc ad 3 M 173 [(0, .ref (ad a0)), (1, .ref (ad a1)), (2, .int x2)] [] := by
  intro n
  induction n with
  | zero => intro x2 M  h; exact h.elim
  | succ n ih =>
    intro x2 M  h
    unfold f_X2_copyFrom_L173 at h
    refine ra_iload_n E dX2_copyFrom_173 rfl 2 rfl ?_
    refine ra_aload_n E dX2_copyFrom_174 rfl 0 rfl ?_
    refine gf_X2_6 E h0 fl_X2_37 dX2_copyFrom_175 ?_
    refine ra_icmp_ge (tgt := 202) E dX2_copyFrom_178 (by decide) (fun q16 => ?_) (fun q16 => ?_)
    · replace h := h.1 q16
      exact ra_vret E hr dX2_copyFrom_202 h
    · replace h := h.2 q16
      refine ra_aload_n E dX2_copyFrom_181 rfl 0 rfl ?_
      refine gf_X2_7 E h0 fl_X2_42 dX2_copyFrom_182 ?_
      refine ra_iload_n E dX2_copyFrom_185 rfl 2 rfl ?_
      obtain ⟨g17, h⟩ := h
      refine ra_aald E (lm (h0.add (by decide))) (cel_ords tc ad h0) rfl g17 dX2_copyFrom_186 ?_
      refine ra_aload_n E dX2_copyFrom_187 rfl 1 rfl ?_
      refine gf_X2_7 E h1 fl_X2_42 dX2_copyFrom_188 ?_
      refine ra_iload_n E dX2_copyFrom_191 rfl 2 rfl ?_
      obtain ⟨g18, h⟩ := h
      refine ra_aald E (lm (h1.add (by decide))) (cel_ords tc ad h1) rfl g18 dX2_copyFrom_192 ?_
      refine ra_callVV (rest := []) E (c_X6_copyFrom _ (isOrder_of h0 g17) _ (isOrder_of h1 g18) _ _ h) (lq_X6 _) cv_X6_copyFrom ml_X2_83 (by decide) (lm (isOrder_of h0 g17).lt) (fun R => ⟨_, cel_order tc ad (isOrder_of h0 g17) R⟩) rfl rfl rfl (Nat.le_of_ble_eq_true rfl) ⟨Nat.le_of_ble_eq_true rfl, Nat.le_of_ble_eq_true rfl⟩ ⟨Nat.zero_le _, Nat.zero_le _⟩ dX2_copyFrom_193 (fun M19 h => ?_)
      refine ra_iinc1 (L' := [(2, _), (0, _), (1, _)]) E dX2_copyFrom_196 2 rfl (by decide) rfl ?_
      refine ra_goto (tgt := 173) E dX2_copyFrom_199 (by decide) ?_
      exact ra_sub (L' := [(0, _), (1, _), (2, _)]) [1, 2, 0] rfl (ih _ _ h)
def f_X2_copyFrom_L142 (a0 : Nat) (a1 : Nat) (K : TM → Prop) : Nat → Int32 → TM → Prop
  | 0, _, _ => False
  | n + 1, x2, M => (((M a0 4) ≤ x2 → ∃ n, f_X2_copyFrom_L173 a0 a1 K n (0 : Int32) M) ∧ (¬ (M a0 4) ≤ x2 → vp_in x2 5 ∧ vp_in x2 5 ∧ f_X1_copyFrom (a0 + 21 + 2 * x2.toNatClampNeg) (a1 + 21 + 2 * x2.toNatClampNeg) M (fun M23 => f_X2_copyFrom_L142 a0 a1 K n (x2 + 1) M23)))
set_option maxRecDepth 100000 in
set_option maxHeartbeats 4000000 in
theorem l_X2_copyFrom_L142 {p : Program} {l : Launch} {e : Env} {s : State} {m : MethodId} {args : Array Value} {below : List Frame} {meth : Method} {c : Code} {D : va_G} {tc : Nat → ClassId} {ad : Nat → Nat} (a0 : Nat) (h0 : IsCanal a0) (a1 : Nat) (h1 : IsCanal a1) {K : TM → Prop} (E : Ev p s m args meth c D tc ad RX2 cX2_copyFrom 3) (hr : meth.sig.returnType = none) : ∀ (n : Nat) (x2 : Int32) (M : TM) , f_X2_copyFrom_L142 a0 a1 K n x2 M → Wa p l e (rmD 2) s m args below meth c 0 0 (MQ below (va_Qv K (EndW D tc ad) (A0 ad s.heap.size)) args s 0 0 (A0 ad s.heap.size)) D tc ad 3 M 142 [(0, .ref (ad a0)), (1, .ref (ad a1)), (2, .int x2)] [] := by
  intro n
  induction n with
  | zero => intro x2 M  h; exact h.elim
  | succ n ih =>
    intro x2 M  h
    unfold f_X2_copyFrom_L142 at h
    refine ra_iload_n E dX2_copyFrom_142 rfl 2 rfl ?_
    refine ra_aload_n E dX2_copyFrom_143 rfl 0 rfl ?_
    refine gf_X2_4 E h0 fl_X2_28 dX2_copyFrom_144 ?_
    refine ra_icmp_ge (tgt := 171) E dX2_copyFrom_147 (by decide) (fun q15 => ?_) (fun q15 => ?_)
    · replace h := h.1 q15
      refine ra_iconst E dX2_copyFrom_171 ki_0 ?_
      refine ra_istore_n (L' := [(2, _), (0, _), (1, _)]) E dX2_copyFrom_172 rfl (by decide) rfl ?_
      obtain ⟨n20, h⟩ := h
      exact ra_sub (L' := [(0, _), (1, _), (2, _)]) [1, 2, 0] rfl (l_X2_copyFrom_L173 a0 h0 a1 h1 E hr n20 _ _ h)
    · replace h := h.2 q15
      refine ra_aload_n E dX2_copyFrom_150 rfl 0 rfl ?_
      refine gf_X2_5 E h0 fl_X2_33 dX2_copyFrom_151 ?_
      refine ra_iload_n E dX2_copyFrom_154 rfl 2 rfl ?_
      obtain ⟨g21, h⟩ := h
      refine ra_aald E (lm (h0.add (by decide))) (cel_bars tc ad h0) rfl g21 dX2_copyFrom_155 ?_
      refine ra_aload_n E dX2_copyFrom_156 rfl 1 rfl ?_
      refine gf_X2_5 E h1 fl_X2_33 dX2_copyFrom_157 ?_
      refine ra_iload_n E dX2_copyFrom_160 rfl 2 rfl ?_
      obtain ⟨g22, h⟩ := h
      refine ra_aald E (lm (h1.add (by decide))) (cel_bars tc ad h1) rfl g22 dX2_copyFrom_161 ?_
      refine ra_callVV (rest := []) E (c_X1_copyFrom _ (isBarge_of h0 g21) _ (isBarge_of h1 g22) _ _ h) (lq_X1 _) cv_X1_copyFrom ml_X2_80 (by decide) (lm (Nat.lt_of_succ_lt (isBarge_of h0 g21).lt)) (fun R => ⟨_, cel_barge tc ad (isBarge_of h0 g21) R⟩) rfl rfl rfl (Nat.le_of_ble_eq_true rfl) ⟨Nat.le_of_ble_eq_true rfl, Nat.le_of_ble_eq_true rfl⟩ ⟨Nat.zero_le _, Nat.zero_le _⟩ dX2_copyFrom_162 (fun M23 h => ?_)
      refine ra_iinc1 (L' := [(2, _), (0, _), (1, _)]) E dX2_copyFrom_165 2 rfl (by decide) rfl ?_
      refine ra_goto (tgt := 142) E dX2_copyFrom_168 (by decide) ?_
      exact ra_sub (L' := [(0, _), (1, _), (2, _)]) [1, 2, 0] rfl (ih _ _ h)
def f_X2_copyFrom_L74 (a0 : Nat) (a1 : Nat) (K : TM → Prop) : Nat → Int32 → TM → Prop
  | 0, _, _ => False
  | n + 1, x2, M => (((15 : Int32) ≤ x2 → (¬ (0 : Int32) < 0 ∧ ¬ (0 : Int32) < 0 ∧ ¬ (16 : Int32) < 0 ∧ (0 : Int32).toNatClampNeg + (16 : Int32).toNatClampNeg ≤ 16 ∧ (0 : Int32).toNatClampNeg + (16 : Int32).toNatClampNeg ≤ 16) ∧ ∀ M12, M12 = uR M (a0 + 2) (va_cpy (M (a1 + 2)) (M (a0 + 2)) (0 : Int32).toNatClampNeg (0 : Int32).toNatClampNeg (16 : Int32).toNatClampNeg) → (¬ (0 : Int32) < 0 ∧ ¬ (0 : Int32) < 0 ∧ ¬ (16 : Int32) < 0 ∧ (0 : Int32).toNatClampNeg + (16 : Int32).toNatClampNeg ≤ 16 ∧ (0 : Int32).toNatClampNeg + (16 : Int32).toNatClampNeg ≤ 16) ∧ ∀ M14, M14 = uR M12 (a0 + 3) (va_cpy (M12 (a1 + 3)) (M12 (a0 + 3)) (0 : Int32).toNatClampNeg (0 : Int32).toNatClampNeg (16 : Int32).toNatClampNeg) → ∃ n, f_X2_copyFrom_L142 a0 a1 K n (0 : Int32) M14) ∧ (¬ (15 : Int32) ≤ x2 → vp_in x2 15 ∧ vp_in x2 15 ∧ f_X9_copyFrom (a0 + 6 + x2.toNatClampNeg) (a1 + 6 + x2.toNatClampNeg) M (fun M27 => f_X2_copyFrom_L74 a0 a1 K n (x2 + 1) M27)))
set_option maxRecDepth 100000 in
set_option maxHeartbeats 4000000 in
theorem l_X2_copyFrom_L74 {p : Program} {l : Launch} {e : Env} {s : State} {m : MethodId} {args : Array Value} {below : List Frame} {meth : Method} {c : Code} {D : va_G} {tc : Nat → ClassId} {ad : Nat → Nat} (a0 : Nat) (h0 : IsCanal a0) (a1 : Nat) (h1 : IsCanal a1) {K : TM → Prop} (E : Ev p s m args meth c D tc ad RX2 cX2_copyFrom 3) (hr : meth.sig.returnType = none) : ∀ (n : Nat) (x2 : Int32) (M : TM) , f_X2_copyFrom_L74 a0 a1 K n x2 M → Wa p l e (rmD 2) s m args below meth c 0 0 (MQ below (va_Qv K (EndW D tc ad) (A0 ad s.heap.size)) args s 0 0 (A0 ad s.heap.size)) D tc ad 3 M 74 [(0, .ref (ad a0)), (1, .ref (ad a1)), (2, .int x2)] [] := by
  intro n
  induction n with
  | zero => intro x2 M  h; exact h.elim
  | succ n ih =>
    intro x2 M  h
    unfold f_X2_copyFrom_L74 at h
    refine ra_iload_n E dX2_copyFrom_74 rfl 2 rfl ?_
    refine ra_aload_n E dX2_copyFrom_75 rfl 0 rfl ?_
    refine gf_X2_1 E h0 fl_X2_17 dX2_copyFrom_76 ?_
    refine ra_alen (n := 15) (v := 15) E (lm (h0.add (by decide))) (fun R => ⟨_, (cel_secs tc ad h0) R, rfl⟩) rfl (by decide) dX2_copyFrom_79 ?_
    refine ra_icmp_ge (tgt := 104) E dX2_copyFrom_80 (by decide) (fun q10 => ?_) (fun q10 => ?_)
    · replace h := h.1 q10
      refine ra_aload_n E dX2_copyFrom_104 rfl 1 rfl ?_
      refine gf_X2_2 E h1 fl_X2_21 dX2_copyFrom_105 ?_
      refine ra_iconst E dX2_copyFrom_108 ki_0 ?_
      refine ra_aload_n E dX2_copyFrom_109 rfl 0 rfl ?_
      refine gf_X2_2 E h0 fl_X2_21 dX2_copyFrom_110 ?_
      refine ra_iconst E dX2_copyFrom_113 ki_0 ?_
      refine ra_aload_n E dX2_copyFrom_114 rfl 0 rfl ?_
      refine gf_X2_2 E h0 fl_X2_21 dX2_copyFrom_115 ?_
      refine ra_alen (n := 16) (v := 16) E (lm (h0.add (by decide))) (fun R => ⟨_, (cel_used tc ad h0) R, rfl⟩) rfl (by decide) dX2_copyFrom_118 ?_
      obtain ⟨g11, h⟩ := h
      refine ra_copyi E (lm (h1.add (by decide))) (cel_used tc ad h1) (lm (h0.add (by decide))) (cel_used tc ad h0) g11 ml_X2_74 ⟨Nat.le_of_ble_eq_true rfl, Nat.le_of_ble_eq_true rfl⟩ dX2_copyFrom_119 ?_
      replace h := h _ rfl
      refine ra_aload_n E dX2_copyFrom_122 rfl 1 rfl ?_
      refine gf_X2_3 E h1 fl_X2_25 dX2_copyFrom_123 ?_
      refine ra_iconst E dX2_copyFrom_126 ki_0 ?_
      refine ra_aload_n E dX2_copyFrom_127 rfl 0 rfl ?_
      refine gf_X2_3 E h0 fl_X2_25 dX2_copyFrom_128 ?_
      refine ra_iconst E dX2_copyFrom_131 ki_0 ?_
      refine ra_aload_n E dX2_copyFrom_132 rfl 0 rfl ?_
      refine gf_X2_3 E h0 fl_X2_25 dX2_copyFrom_133 ?_
      refine ra_alen (n := 16) (v := 16) E (lm (h0.add (by decide))) (fun R => ⟨_, (cel_eat tc ad h0) R, rfl⟩) rfl (by decide) dX2_copyFrom_136 ?_
      obtain ⟨g13, h⟩ := h
      refine ra_copyi E (lm (h1.add (by decide))) (cel_eat tc ad h1) (lm (h0.add (by decide))) (cel_eat tc ad h0) g13 ml_X2_74 ⟨Nat.le_of_ble_eq_true rfl, Nat.le_of_ble_eq_true rfl⟩ dX2_copyFrom_137 ?_
      replace h := h _ rfl
      refine ra_iconst E dX2_copyFrom_140 ki_0 ?_
      refine ra_istore_n (L' := [(2, _), (0, _), (1, _)]) E dX2_copyFrom_141 rfl (by decide) rfl ?_
      obtain ⟨n24, h⟩ := h
      exact ra_sub (L' := [(0, _), (1, _), (2, _)]) [1, 2, 0] rfl (l_X2_copyFrom_L142 a0 h0 a1 h1 E hr n24 _ _ h)
    · replace h := h.2 q10
      refine ra_aload_n E dX2_copyFrom_83 rfl 0 rfl ?_
      refine gf_X2_1 E h0 fl_X2_17 dX2_copyFrom_84 ?_
      refine ra_iload_n E dX2_copyFrom_87 rfl 2 rfl ?_
      obtain ⟨g25, h⟩ := h
      refine ra_aald E (lm (h0.add (by decide))) (cel_secs tc ad h0) rfl g25 dX2_copyFrom_88 ?_
      refine ra_aload_n E dX2_copyFrom_89 rfl 1 rfl ?_
      refine gf_X2_1 E h1 fl_X2_17 dX2_copyFrom_90 ?_
      refine ra_iload_n E dX2_copyFrom_93 rfl 2 rfl ?_
      obtain ⟨g26, h⟩ := h
      refine ra_aald E (lm (h1.add (by decide))) (cel_secs tc ad h1) rfl g26 dX2_copyFrom_94 ?_
      refine ra_callVV (rest := []) E (c_X9_copyFrom _ (isSec_of h0 g25) _ (isSec_of h1 g26) _ _ h) (lq_X9 _) cv_X9_copyFrom ml_X2_70 (by decide) (lm (isSec_of h0 g25).lt) (fun R => ⟨_, cel_sec tc ad (isSec_of h0 g25) R⟩) rfl rfl rfl (Nat.le_of_ble_eq_true rfl) ⟨Nat.le_of_ble_eq_true rfl, Nat.le_of_ble_eq_true rfl⟩ ⟨Nat.zero_le _, Nat.zero_le _⟩ dX2_copyFrom_95 (fun M27 h => ?_)
      refine ra_iinc1 (L' := [(2, _), (0, _), (1, _)]) E dX2_copyFrom_98 2 rfl (by decide) rfl ?_
      refine ra_goto (tgt := 74) E dX2_copyFrom_101 (by decide) ?_
      exact ra_sub (L' := [(0, _), (1, _), (2, _)]) [1, 2, 0] rfl (ih _ _ h)
def f_X2_copyFrom (a0 : Nat) (a1 : Nat) (M : TM) (K : TM → Prop) : Prop := ∀ M1, M1 = u2 M a0 0 (M a1 0) → ∀ M2, M2 = u2 M1 a0 4 (M1 a1 4) → ∀ M3, M3 = u2 M2 a0 6 (M2 a1 6) → ∀ M4, M4 = u2 M3 a0 8 (M3 a1 8) → ∀ M5, M5 = u2 M4 a0 9 (M4 a1 9) → ∀ M6, M6 = u2 M5 a0 10 (M5 a1 10) → ∀ M7, M7 = u2 M6 a0 11 (M6 a1 11) → ∀ M8, M8 = u2 M7 a0 12 (M7 a1 12) → ∀ M9, M9 = u2 M8 a0 13 (M8 a1 13) → ∃ n, f_X2_copyFrom_L74 a0 a1 K n (0 : Int32) M9
set_option maxRecDepth 100000 in
set_option maxHeartbeats 4000000 in
theorem c_X2_copyFrom {ad : Nat → Nat} (a0 : Nat) (h0 : IsCanal a0) (a1 : Nat) (h1 : IsCanal a1) (M : TM) (K : TM → Prop) (h : f_X2_copyFrom a0 a1 M K) : MV yX2_copyFrom cX2_copyFrom 3 2 ad [.ref (ad a0), .ref (ad a1)] M K := by
  refine MV_of RX2 rfl (by decide +kernel) (Nat.le_of_ble_eq_true rfl) (fun p l e s m below meth c D tc E hr => ?_)
  unfold f_X2_copyFrom at h
  refine ra_aload_n E dX2_copyFrom_0 rfl 0 rfl ?_
  refine ra_aload_n E dX2_copyFrom_1 rfl 1 rfl ?_
  refine gf_X2_0 E h1 fl_X2_9 dX2_copyFrom_2 ?_
  refine pf_X2_0 E h0 fl_X2_9 dX2_copyFrom_5 ?_
  replace h := h _ rfl
  refine ra_aload_n E dX2_copyFrom_8 rfl 0 rfl ?_
  refine ra_aload_n E dX2_copyFrom_9 rfl 1 rfl ?_
  refine gf_X2_4 E h1 fl_X2_28 dX2_copyFrom_10 ?_
  refine pf_X2_4 E h0 fl_X2_28 dX2_copyFrom_13 ?_
  replace h := h _ rfl
  refine ra_aload_n E dX2_copyFrom_16 rfl 0 rfl ?_
  refine ra_aload_n E dX2_copyFrom_17 rfl 1 rfl ?_
  refine gf_X2_6 E h1 fl_X2_37 dX2_copyFrom_18 ?_
  refine pf_X2_6 E h0 fl_X2_37 dX2_copyFrom_21 ?_
  replace h := h _ rfl
  refine ra_aload_n E dX2_copyFrom_24 rfl 0 rfl ?_
  refine ra_aload_n E dX2_copyFrom_25 rfl 1 rfl ?_
  refine gf_X2_8 E h1 fl_X2_46 dX2_copyFrom_26 ?_
  refine pf_X2_8 E h0 fl_X2_46 dX2_copyFrom_29 ?_
  replace h := h _ rfl
  refine ra_aload_n E dX2_copyFrom_32 rfl 0 rfl ?_
  refine ra_aload_n E dX2_copyFrom_33 rfl 1 rfl ?_
  refine gf_X2_9 E h1 fl_X2_49 dX2_copyFrom_34 ?_
  refine pf_X2_9 E h0 fl_X2_49 dX2_copyFrom_37 ?_
  replace h := h _ rfl
  refine ra_aload_n E dX2_copyFrom_40 rfl 0 rfl ?_
  refine ra_aload_n E dX2_copyFrom_41 rfl 1 rfl ?_
  refine gf_X2_10 E h1 fl_X2_52 dX2_copyFrom_42 ?_
  refine pf_X2_10 E h0 fl_X2_52 dX2_copyFrom_45 ?_
  replace h := h _ rfl
  refine ra_aload_n E dX2_copyFrom_48 rfl 0 rfl ?_
  refine ra_aload_n E dX2_copyFrom_49 rfl 1 rfl ?_
  refine gf_X2_11 E h1 fl_X2_55 dX2_copyFrom_50 ?_
  refine pf_X2_11 E h0 fl_X2_55 dX2_copyFrom_53 ?_
  replace h := h _ rfl
  refine ra_aload_n E dX2_copyFrom_56 rfl 0 rfl ?_
  refine ra_aload_n E dX2_copyFrom_57 rfl 1 rfl ?_
  refine gf_X2_12 E h1 fl_X2_58 dX2_copyFrom_58 ?_
  refine pf_X2_12 E h0 fl_X2_58 dX2_copyFrom_61 ?_
  replace h := h _ rfl
  refine ra_aload_n E dX2_copyFrom_64 rfl 0 rfl ?_
  refine ra_aload_n E dX2_copyFrom_65 rfl 1 rfl ?_
  refine gf_X2_13 E h1 fl_X2_61 dX2_copyFrom_66 ?_
  refine pf_X2_13 E h0 fl_X2_61 dX2_copyFrom_69 ?_
  replace h := h _ rfl
  refine ra_iconst E dX2_copyFrom_72 ki_0 ?_
  refine ra_istore_n (L' := [(2, _), (0, _), (1, _)]) E dX2_copyFrom_73 rfl (by decide) rfl ?_
  obtain ⟨n28, h⟩ := h
  exact ra_sub (L' := [(0, _), (1, _), (2, _)]) [1, 2, 0] rfl (l_X2_copyFrom_L74 a0 h0 a1 h1 E hr n28 _ _ h)
def f_X2_countOrdersAt_L4 (a0 : Nat) (p1 : Int32) (K : Int32 → TM → Prop) : Nat → Int32 → Int32 → Int32 → TM → Prop
  | 0, _, _, _, _ => False
  | n + 1, x1, x2, x3, M => (((M a0 6) ≤ x3 → K x2 M) ∧ (¬ (M a0 6) ≤ x3 → vp_in x3 30 ∧ ((¬ (M (a0 + 31 + x3.toNatClampNeg) 0) = x1 → f_X2_countOrdersAt_L4 a0 p1 K n x1 x2 (x3 + 1) M) ∧ ((M (a0 + 31 + x3.toNatClampNeg) 0) = x1 → vp_in x3 30 ∧ f_X6_canStillBeEaten (a0 + 31 + x3.toNatClampNeg) M (fun r6 M5 => ((r6 = 0 → f_X2_countOrdersAt_L4 a0 p1 K n x1 x2 (x3 + 1) M5) ∧ (¬ r6 = 0 → f_X2_countOrdersAt_L4 a0 p1 K n x1 (x2 + 1) (x3 + 1) M5)))))))
set_option maxRecDepth 100000 in
set_option maxHeartbeats 4000000 in
theorem l_X2_countOrdersAt_L4 {p : Program} {l : Launch} {e : Env} {s : State} {m : MethodId} {args : Array Value} {below : List Frame} {meth : Method} {c : Code} {D : va_G} {tc : Nat → ClassId} {ad : Nat → Nat} (a0 : Nat) (h0 : IsCanal a0) (p1 : Int32) {K : Int32 → TM → Prop} (E : Ev p s m args meth c D tc ad RX2 cX2_countOrdersAt 4) (hr : meth.sig.returnType = (some .int)) : ∀ (n : Nat) (x1 : Int32) (x2 : Int32) (x3 : Int32) (M : TM) , f_X2_countOrdersAt_L4 a0 p1 K n x1 x2 x3 M → Wa p l e (rmD 2) s m args below meth c 0 0 (MQ below (va_Qi K (EndW D tc ad) (A0 ad s.heap.size)) args s 0 0 (A0 ad s.heap.size)) D tc ad 4 M 4 [(0, .ref (ad a0)), (1, .int x1), (2, .int x2), (3, .int x3)] [] := by
  intro n
  induction n with
  | zero => intro x1 x2 x3 M  h; exact h.elim
  | succ n ih =>
    intro x1 x2 x3 M  h
    unfold f_X2_countOrdersAt_L4 at h
    refine ra_iload_n E dX2_countOrdersAt_4 rfl 3 rfl ?_
    refine ra_aload_n E dX2_countOrdersAt_5 rfl 0 rfl ?_
    refine gf_X2_6 E h0 fl_X2_37 dX2_countOrdersAt_6 ?_
    refine ra_icmp_ge (tgt := 46) E dX2_countOrdersAt_9 (by decide) (fun q1 => ?_) (fun q1 => ?_)
    · replace h := h.1 q1
      refine ra_iload_n E dX2_countOrdersAt_46 rfl 2 rfl ?_
      exact ra_iret E hr dX2_countOrdersAt_47 h
    · replace h := h.2 q1
      refine ra_aload_n E dX2_countOrdersAt_12 rfl 0 rfl ?_
      refine gf_X2_7 E h0 fl_X2_42 dX2_countOrdersAt_13 ?_
      refine ra_iload_n E dX2_countOrdersAt_16 rfl 3 rfl ?_
      obtain ⟨g2, h⟩ := h
      refine ra_aald E (lm (h0.add (by decide))) (cel_ords tc ad h0) rfl g2 dX2_countOrdersAt_17 ?_
      refine gf_X6_0 E (isOrder_of h0 g2) fl_X2_105 dX2_countOrdersAt_18 ?_
      refine ra_iload_n E dX2_countOrdersAt_21 rfl 1 rfl ?_
      refine ra_icmp_ne (tgt := 40) E dX2_countOrdersAt_22 (by decide) (fun q3 => ?_) (fun q3 => ?_)
      · replace h := h.1 q3
        refine ra_iinc1 (L' := [(3, _), (0, _), (1, _), (2, _)]) E dX2_countOrdersAt_40 3 rfl (by decide) rfl ?_
        refine ra_goto (tgt := 4) E dX2_countOrdersAt_43 (by decide) ?_
        exact ra_sub (L' := [(0, _), (1, _), (2, _), (3, _)]) [1, 2, 3, 0] rfl (ih _ _ _ _ h)
      · replace h := h.2 q3
        refine ra_aload_n E dX2_countOrdersAt_25 rfl 0 rfl ?_
        refine gf_X2_7 E h0 fl_X2_42 dX2_countOrdersAt_26 ?_
        refine ra_iload_n E dX2_countOrdersAt_29 rfl 3 rfl ?_
        obtain ⟨g4, h⟩ := h
        refine ra_aald E (lm (h0.add (by decide))) (cel_ords tc ad h0) rfl g4 dX2_countOrdersAt_30 ?_
        refine ra_callIV (rest := []) E (c_X6_canStillBeEaten _ (isOrder_of h0 g4) _ _ h) (lq_X6 _) cv_X6_canStillBeEaten ml_X2_106 (by decide) (lm (isOrder_of h0 g4).lt) (fun R => ⟨_, cel_order tc ad (isOrder_of h0 g4) R⟩) rfl rfl rfl (Nat.le_of_ble_eq_true rfl) ⟨Nat.le_of_ble_eq_true rfl, Nat.le_of_ble_eq_true rfl⟩ ⟨Nat.zero_le _, Nat.zero_le _⟩ dX2_countOrdersAt_31 (fun r6 M5 h => ?_)
        obtain ⟨b7, h⟩ := h
        refine ra_if_eq (tgt := 40) E dX2_countOrdersAt_34 (by decide) (fun q8 => ?_) (fun q8 => ?_)
        · replace h := h.1 q8
          refine ra_iinc1 (L' := [(3, _), (0, _), (1, _), (2, _)]) E dX2_countOrdersAt_40 3 rfl (by decide) rfl ?_
          refine ra_goto (tgt := 4) E dX2_countOrdersAt_43 (by decide) ?_
          exact ra_sub (L' := [(0, _), (1, _), (2, _), (3, _)]) [1, 2, 3, 0] rfl (ih _ _ _ _ h)
        · replace h := h.2 q8
          refine ra_iinc1 (L' := [(2, _), (0, _), (1, _), (3, _)]) E dX2_countOrdersAt_37 2 rfl (by decide) rfl ?_
          refine ra_iinc1 (L' := [(3, _), (2, _), (0, _), (1, _)]) E dX2_countOrdersAt_40 3 rfl (by decide) rfl ?_
          refine ra_goto (tgt := 4) E dX2_countOrdersAt_43 (by decide) ?_
          exact ra_sub (L' := [(0, _), (1, _), (2, _), (3, _)]) [2, 3, 1, 0] rfl (ih _ _ _ _ h)
def f_X2_countOrdersAt (a0 : Nat) (p1 : Int32) (M : TM) (K : Int32 → TM → Prop) : Prop := ∃ n, f_X2_countOrdersAt_L4 a0 p1 K n p1 (0 : Int32) (0 : Int32) M
set_option maxRecDepth 100000 in
set_option maxHeartbeats 4000000 in
theorem c_X2_countOrdersAt {ad : Nat → Nat} (a0 : Nat) (h0 : IsCanal a0) (p1 : Int32) (M : TM) (K : Int32 → TM → Prop) (h : f_X2_countOrdersAt a0 p1 M K) : MI yX2_countOrdersAt cX2_countOrdersAt 4 (some .int) 2 ad [.ref (ad a0), .int p1] M K := by
  refine MI_of RX2 rfl (by decide +kernel) (Nat.le_of_ble_eq_true rfl) (fun p l e s m below meth c D tc E hr => ?_)
  unfold f_X2_countOrdersAt at h
  refine ra_iconst E dX2_countOrdersAt_0 ki_0 ?_
  refine ra_istore_n (L' := [(2, _), (0, _), (1, _)]) E dX2_countOrdersAt_1 rfl (by decide) rfl ?_
  refine ra_iconst E dX2_countOrdersAt_2 ki_0 ?_
  refine ra_istore_n (L' := [(3, _), (2, _), (0, _), (1, _)]) E dX2_countOrdersAt_3 rfl (by decide) rfl ?_
  obtain ⟨n9, h⟩ := h
  exact ra_sub (L' := [(0, _), (1, _), (2, _), (3, _)]) [2, 3, 1, 0] rfl (l_X2_countOrdersAt_L4 a0 h0 p1 E hr n9 _ _ _ _ h)
def f_X2_countHeldBy_L4 (a0 : Nat) (p1 : Int32) (K : Int32 → TM → Prop) : Nat → Int32 → Int32 → Int32 → TM → Prop
  | 0, _, _, _, _ => False
  | n + 1, x1, x2, x3, M => (((M a0 6) ≤ x3 → K x2 M) ∧ (¬ (M a0 6) ≤ x3 → vp_in x3 30 ∧ ((¬ (M (a0 + 31 + x3.toNatClampNeg) 7) = x1 → f_X2_countHeldBy_L4 a0 p1 K n x1 x2 (x3 + 1) M) ∧ ((M (a0 + 31 + x3.toNatClampNeg) 7) = x1 → vp_in x3 30 ∧ f_X6_isHeld (a0 + 31 + x3.toNatClampNeg) M (fun r6 M5 => ((r6 = 0 → f_X2_countHeldBy_L4 a0 p1 K n x1 x2 (x3 + 1) M5) ∧ (¬ r6 = 0 → f_X2_countHeldBy_L4 a0 p1 K n x1 (x2 + 1) (x3 + 1) M5)))))))
set_option maxRecDepth 100000 in
set_option maxHeartbeats 4000000 in
theorem l_X2_countHeldBy_L4 {p : Program} {l : Launch} {e : Env} {s : State} {m : MethodId} {args : Array Value} {below : List Frame} {meth : Method} {c : Code} {D : va_G} {tc : Nat → ClassId} {ad : Nat → Nat} (a0 : Nat) (h0 : IsCanal a0) (p1 : Int32) {K : Int32 → TM → Prop} (E : Ev p s m args meth c D tc ad RX2 cX2_countHeldBy 4) (hr : meth.sig.returnType = (some .int)) : ∀ (n : Nat) (x1 : Int32) (x2 : Int32) (x3 : Int32) (M : TM) , f_X2_countHeldBy_L4 a0 p1 K n x1 x2 x3 M → Wa p l e (rmD 1) s m args below meth c 0 0 (MQ below (va_Qi K (EndW D tc ad) (A0 ad s.heap.size)) args s 0 0 (A0 ad s.heap.size)) D tc ad 4 M 4 [(0, .ref (ad a0)), (1, .int x1), (2, .int x2), (3, .int x3)] [] := by
  intro n
  induction n with
  | zero => intro x1 x2 x3 M  h; exact h.elim
  | succ n ih =>
    intro x1 x2 x3 M  h
    unfold f_X2_countHeldBy_L4 at h
    refine ra_iload_n E dX2_countHeldBy_4 rfl 3 rfl ?_
    refine ra_aload_n E dX2_countHeldBy_5 rfl 0 rfl ?_
    refine gf_X2_6 E h0 fl_X2_37 dX2_countHeldBy_6 ?_
    refine ra_icmp_ge (tgt := 46) E dX2_countHeldBy_9 (by decide) (fun q1 => ?_) (fun q1 => ?_)
    · replace h := h.1 q1
      refine ra_iload_n E dX2_countHeldBy_46 rfl 2 rfl ?_
      exact ra_iret E hr dX2_countHeldBy_47 h
    · replace h := h.2 q1
      refine ra_aload_n E dX2_countHeldBy_12 rfl 0 rfl ?_
      refine gf_X2_7 E h0 fl_X2_42 dX2_countHeldBy_13 ?_
      refine ra_iload_n E dX2_countHeldBy_16 rfl 3 rfl ?_
      obtain ⟨g2, h⟩ := h
      refine ra_aald E (lm (h0.add (by decide))) (cel_ords tc ad h0) rfl g2 dX2_countHeldBy_17 ?_
      refine gf_X6_7 E (isOrder_of h0 g2) fl_X2_109 dX2_countHeldBy_18 ?_
      refine ra_iload_n E dX2_countHeldBy_21 rfl 1 rfl ?_
      refine ra_icmp_ne (tgt := 40) E dX2_countHeldBy_22 (by decide) (fun q3 => ?_) (fun q3 => ?_)
      · replace h := h.1 q3
        refine ra_iinc1 (L' := [(3, _), (0, _), (1, _), (2, _)]) E dX2_countHeldBy_40 3 rfl (by decide) rfl ?_
        refine ra_goto (tgt := 4) E dX2_countHeldBy_43 (by decide) ?_
        exact ra_sub (L' := [(0, _), (1, _), (2, _), (3, _)]) [1, 2, 3, 0] rfl (ih _ _ _ _ h)
      · replace h := h.2 q3
        refine ra_aload_n E dX2_countHeldBy_25 rfl 0 rfl ?_
        refine gf_X2_7 E h0 fl_X2_42 dX2_countHeldBy_26 ?_
        refine ra_iload_n E dX2_countHeldBy_29 rfl 3 rfl ?_
        obtain ⟨g4, h⟩ := h
        refine ra_aald E (lm (h0.add (by decide))) (cel_ords tc ad h0) rfl g4 dX2_countHeldBy_30 ?_
        refine ra_callIV (rest := []) E (c_X6_isHeld _ (isOrder_of h0 g4) _ _ h) (lq_X6 _) cv_X6_isHeld ml_X2_112 (by decide) (lm (isOrder_of h0 g4).lt) (fun R => ⟨_, cel_order tc ad (isOrder_of h0 g4) R⟩) rfl rfl rfl (Nat.le_of_ble_eq_true rfl) ⟨Nat.le_of_ble_eq_true rfl, Nat.le_of_ble_eq_true rfl⟩ ⟨Nat.zero_le _, Nat.zero_le _⟩ dX2_countHeldBy_31 (fun r6 M5 h => ?_)
        obtain ⟨b7, h⟩ := h
        refine ra_if_eq (tgt := 40) E dX2_countHeldBy_34 (by decide) (fun q8 => ?_) (fun q8 => ?_)
        · replace h := h.1 q8
          refine ra_iinc1 (L' := [(3, _), (0, _), (1, _), (2, _)]) E dX2_countHeldBy_40 3 rfl (by decide) rfl ?_
          refine ra_goto (tgt := 4) E dX2_countHeldBy_43 (by decide) ?_
          exact ra_sub (L' := [(0, _), (1, _), (2, _), (3, _)]) [1, 2, 3, 0] rfl (ih _ _ _ _ h)
        · replace h := h.2 q8
          refine ra_iinc1 (L' := [(2, _), (0, _), (1, _), (3, _)]) E dX2_countHeldBy_37 2 rfl (by decide) rfl ?_
          refine ra_iinc1 (L' := [(3, _), (2, _), (0, _), (1, _)]) E dX2_countHeldBy_40 3 rfl (by decide) rfl ?_
          refine ra_goto (tgt := 4) E dX2_countHeldBy_43 (by decide) ?_
          exact ra_sub (L' := [(0, _), (1, _), (2, _), (3, _)]) [2, 3, 1, 0] rfl (ih _ _ _ _ h)
def f_X2_countHeldBy (a0 : Nat) (p1 : Int32) (M : TM) (K : Int32 → TM → Prop) : Prop := ∃ n, f_X2_countHeldBy_L4 a0 p1 K n p1 (0 : Int32) (0 : Int32) M
set_option maxRecDepth 100000 in
set_option maxHeartbeats 4000000 in
theorem c_X2_countHeldBy {ad : Nat → Nat} (a0 : Nat) (h0 : IsCanal a0) (p1 : Int32) (M : TM) (K : Int32 → TM → Prop) (h : f_X2_countHeldBy a0 p1 M K) : MI yX2_countHeldBy cX2_countHeldBy 4 (some .int) 1 ad [.ref (ad a0), .int p1] M K := by
  refine MI_of RX2 rfl (by decide +kernel) (Nat.le_of_ble_eq_true rfl) (fun p l e s m below meth c D tc E hr => ?_)
  unfold f_X2_countHeldBy at h
  refine ra_iconst E dX2_countHeldBy_0 ki_0 ?_
  refine ra_istore_n (L' := [(2, _), (0, _), (1, _)]) E dX2_countHeldBy_1 rfl (by decide) rfl ?_
  refine ra_iconst E dX2_countHeldBy_2 ki_0 ?_
  refine ra_istore_n (L' := [(3, _), (2, _), (0, _), (1, _)]) E dX2_countHeldBy_3 rfl (by decide) rfl ?_
  obtain ⟨n9, h⟩ := h
  exact ra_sub (L' := [(0, _), (1, _), (2, _), (3, _)]) [2, 3, 1, 0] rfl (l_X2_countHeldBy_L4 a0 h0 p1 E hr n9 _ _ _ _ h)
def f_X2_obstacleFor (a0 : Nat) (p1 : Int32) (p2 : Int32) (M : TM) (K : Int32 → TM → Prop) : Prop := f_X2_hasBarge a0 p1 M (fun r2 M1 => ((r2 = 0 → K (1 : Int32) M1) ∧ (¬ r2 = 0 → vp_in p1 5 ∧ f_X1_isInLock (a0 + 21 + 2 * p1.toNatClampNeg) M1 (fun r7 M6 => ((r7 = 0 → vp_in p1 5 ∧ ((¬ (M6 (a0 + 21 + 2 * p1.toNatClampNeg) 1) = p2 → vp_in p1 5 ∧ f_X2_fitsUnderBridges a0 (a0 + 21 + 2 * p1.toNatClampNeg) p2 M6 (fun r14 M13 => ((r14 = 0 → K (3 : Int32) M13) ∧ (¬ r14 = 0 → K (0 : Int32) M13)))) ∧ ((M6 (a0 + 21 + 2 * p1.toNatClampNeg) 1) = p2 → K (2 : Int32) M6))) ∧ (¬ r7 = 0 → K (1 : Int32) M6))))))
set_option maxRecDepth 100000 in
set_option maxHeartbeats 4000000 in
theorem c_X2_obstacleFor {ad : Nat → Nat} (a0 : Nat) (h0 : IsCanal a0) (p1 : Int32) (p2 : Int32) (M : TM) (K : Int32 → TM → Prop) (h : f_X2_obstacleFor a0 p1 p2 M K) : MI yX2_obstacleFor cX2_obstacleFor 3 (some .int) 2 ad [.ref (ad a0), .int p1, .int p2] M K := by
  refine MI_of RX2 rfl (by decide +kernel) (Nat.le_of_ble_eq_true rfl) (fun p l e s m below meth c D tc E hr => ?_)
  unfold f_X2_obstacleFor at h
  refine ra_aload_n E dX2_obstacleFor_0 rfl 0 rfl ?_
  refine ra_iload_n E dX2_obstacleFor_1 rfl 1 rfl ?_
  refine ra_callIV (rest := []) E (c_X2_hasBarge _ h0 _ _ _ h) (lq_X2 _) cv_X2_hasBarge ml_X2_162 (by decide) (lm (h0.add (j := 0) (by decide))) (fun R => ⟨_, cel_canal tc ad h0 R⟩) rfl rfl rfl (Nat.le_of_ble_eq_true rfl) ⟨Nat.le_of_ble_eq_true rfl, Nat.le_of_ble_eq_true rfl⟩ ⟨Nat.zero_le _, Nat.zero_le _⟩ dX2_obstacleFor_2 (fun r2 M1 h => ?_)
  obtain ⟨b3, h⟩ := h
  refine ra_if_eq (tgt := 20) E dX2_obstacleFor_5 (by decide) (fun q4 => ?_) (fun q4 => ?_)
  · replace h := h.1 q4
    refine ra_iconst E dX2_obstacleFor_20 ki_1 ?_
    exact ra_iret E hr dX2_obstacleFor_21 h
  · replace h := h.2 q4
    refine ra_aload_n E dX2_obstacleFor_8 rfl 0 rfl ?_
    refine gf_X2_5 E h0 fl_X2_33 dX2_obstacleFor_9 ?_
    refine ra_iload_n E dX2_obstacleFor_12 rfl 1 rfl ?_
    obtain ⟨g5, h⟩ := h
    refine ra_aald E (lm (h0.add (by decide))) (cel_bars tc ad h0) rfl g5 dX2_obstacleFor_13 ?_
    refine ra_callIV (rest := []) E (c_X1_isInLock _ (isBarge_of h0 g5) _ _ h) (lq_X1 _) cv_X1_isInLock ml_X2_101 (by decide) (lm (Nat.lt_of_succ_lt (isBarge_of h0 g5).lt)) (fun R => ⟨_, cel_barge tc ad (isBarge_of h0 g5) R⟩) rfl rfl rfl (Nat.le_of_ble_eq_true rfl) ⟨Nat.le_of_ble_eq_true rfl, Nat.le_of_ble_eq_true rfl⟩ ⟨Nat.zero_le _, Nat.zero_le _⟩ dX2_obstacleFor_14 (fun r7 M6 h => ?_)
    obtain ⟨b8, h⟩ := h
    refine ra_if_eq (tgt := 22) E dX2_obstacleFor_17 (by decide) (fun q9 => ?_) (fun q9 => ?_)
    · replace h := h.1 q9
      refine ra_aload_n E dX2_obstacleFor_22 rfl 0 rfl ?_
      refine gf_X2_5 E h0 fl_X2_33 dX2_obstacleFor_23 ?_
      refine ra_iload_n E dX2_obstacleFor_26 rfl 1 rfl ?_
      obtain ⟨g10, h⟩ := h
      refine ra_aald E (lm (h0.add (by decide))) (cel_bars tc ad h0) rfl g10 dX2_obstacleFor_27 ?_
      refine gf_X1_1 E (isBarge_of h0 g10) fl_X2_168 dX2_obstacleFor_28 ?_
      refine ra_iload_n E dX2_obstacleFor_31 rfl 2 rfl ?_
      refine ra_icmp_ne (tgt := 37) E dX2_obstacleFor_32 (by decide) (fun q11 => ?_) (fun q11 => ?_)
      · replace h := h.1 q11
        refine ra_aload_n E dX2_obstacleFor_37 rfl 0 rfl ?_
        refine ra_aload_n E dX2_obstacleFor_38 rfl 0 rfl ?_
        refine gf_X2_5 E h0 fl_X2_33 dX2_obstacleFor_39 ?_
        refine ra_iload_n E dX2_obstacleFor_42 rfl 1 rfl ?_
        obtain ⟨g12, h⟩ := h
        refine ra_aald E (lm (h0.add (by decide))) (cel_bars tc ad h0) rfl g12 dX2_obstacleFor_43 ?_
        refine ra_iload_n E dX2_obstacleFor_44 rfl 2 rfl ?_
        refine ra_callIV (rest := []) E (c_X2_fitsUnderBridges _ h0 _ (isBarge_of h0 g12) _ _ _ h) (lq_X2 _) cv_X2_fitsUnderBridges ml_X2_171 (by decide) (lm (h0.add (j := 0) (by decide))) (fun R => ⟨_, cel_canal tc ad h0 R⟩) rfl rfl rfl (Nat.le_of_ble_eq_true rfl) ⟨Nat.le_of_ble_eq_true rfl, Nat.le_of_ble_eq_true rfl⟩ ⟨Nat.zero_le _, Nat.zero_le _⟩ dX2_obstacleFor_45 (fun r14 M13 h => ?_)
        obtain ⟨b15, h⟩ := h
        refine ra_if_eq (tgt := 55) E dX2_obstacleFor_48 (by decide) (fun q16 => ?_) (fun q16 => ?_)
        · replace h := h.1 q16
          refine ra_iconst E dX2_obstacleFor_55 ki_3 ?_
          exact ra_iret E hr dX2_obstacleFor_56 h
        · replace h := h.2 q16
          refine ra_iconst E dX2_obstacleFor_51 ki_0 ?_
          refine ra_goto (tgt := 56) E dX2_obstacleFor_52 (by decide) ?_
          exact ra_iret E hr dX2_obstacleFor_56 h
      · replace h := h.2 q11
        refine ra_iconst E dX2_obstacleFor_35 ki_2 ?_
        exact ra_iret E hr dX2_obstacleFor_36 h
    · replace h := h.2 q9
      refine ra_iconst E dX2_obstacleFor_20 ki_1 ?_
      exact ra_iret E hr dX2_obstacleFor_21 h
def f_X2_canSail (a0 : Nat) (p1 : Int32) (p2 : Int32) (M : TM) (K : Int32 → TM → Prop) : Prop := f_X2_hasBarge a0 p1 M (fun r2 M1 => ((r2 = 0 → K (0 : Int32) M1) ∧ (¬ r2 = 0 → f_X2_hasPlace a0 p2 M1 (fun r6 M5 => ((r6 = 0 → K (0 : Int32) M5) ∧ (¬ r6 = 0 → f_X2_obstacleFor a0 p1 p2 M5 (fun r10 M9 => ((¬ r10 = 0 → K (0 : Int32) M9) ∧ (r10 = 0 → K (1 : Int32) M9)))))))))
set_option maxRecDepth 100000 in
set_option maxHeartbeats 4000000 in
theorem c_X2_canSail {ad : Nat → Nat} (a0 : Nat) (h0 : IsCanal a0) (p1 : Int32) (p2 : Int32) (M : TM) (K : Int32 → TM → Prop) (h : f_X2_canSail a0 p1 p2 M K) : MI yX2_canSail cX2_canSail 3 (some .boolean) 3 ad [.ref (ad a0), .int p1, .int p2] M (fun r M' => (r = 0 ∨ r = 1) ∧ K r M') := by
  refine MI_of RX2 rfl (by decide +kernel) (Nat.le_of_ble_eq_true rfl) (fun p l e s m below meth c D tc E hr => ?_)
  unfold f_X2_canSail at h
  refine ra_aload_n E dX2_canSail_0 rfl 0 rfl ?_
  refine ra_iload_n E dX2_canSail_1 rfl 1 rfl ?_
  refine ra_callIV (rest := []) E (c_X2_hasBarge _ h0 _ _ _ h) (lq_X2 _) cv_X2_hasBarge ml_X2_162 (by decide) (lm (h0.add (j := 0) (by decide))) (fun R => ⟨_, cel_canal tc ad h0 R⟩) rfl rfl rfl (Nat.le_of_ble_eq_true rfl) ⟨Nat.le_of_ble_eq_true rfl, Nat.le_of_ble_eq_true rfl⟩ ⟨Nat.zero_le _, Nat.zero_le _⟩ dX2_canSail_2 (fun r2 M1 h => ?_)
  obtain ⟨b3, h⟩ := h
  refine ra_if_eq (tgt := 29) E dX2_canSail_5 (by decide) (fun q4 => ?_) (fun q4 => ?_)
  · replace h := h.1 q4
    refine ra_iconst E dX2_canSail_29 ki_0 ?_
    exact ra_zret E hr rfl dX2_canSail_30 ⟨Or.inl rfl, h⟩
  · replace h := h.2 q4
    refine ra_aload_n E dX2_canSail_8 rfl 0 rfl ?_
    refine ra_iload_n E dX2_canSail_9 rfl 2 rfl ?_
    refine ra_callIV (rest := []) E (c_X2_hasPlace _ h0 _ _ _ h) (lq_X2 _) cv_X2_hasPlace ml_X2_90 (by decide) (lm (h0.add (j := 0) (by decide))) (fun R => ⟨_, cel_canal tc ad h0 R⟩) rfl rfl rfl (Nat.le_of_ble_eq_true rfl) ⟨Nat.le_of_ble_eq_true rfl, Nat.le_of_ble_eq_true rfl⟩ ⟨Nat.zero_le _, Nat.zero_le _⟩ dX2_canSail_10 (fun r6 M5 h => ?_)
    obtain ⟨b7, h⟩ := h
    refine ra_if_eq (tgt := 29) E dX2_canSail_13 (by decide) (fun q8 => ?_) (fun q8 => ?_)
    · replace h := h.1 q8
      refine ra_iconst E dX2_canSail_29 ki_0 ?_
      exact ra_zret E hr rfl dX2_canSail_30 ⟨Or.inl rfl, h⟩
    · replace h := h.2 q8
      refine ra_aload_n E dX2_canSail_16 rfl 0 rfl ?_
      refine ra_iload_n E dX2_canSail_17 rfl 1 rfl ?_
      refine ra_iload_n E dX2_canSail_18 rfl 2 rfl ?_
      refine ra_callIV (rest := []) E (c_X2_obstacleFor _ h0 _ _ _ _ h) (lq_X2 _) cv_X2_obstacleFor ml_X2_197 (by decide) (lm (h0.add (j := 0) (by decide))) (fun R => ⟨_, cel_canal tc ad h0 R⟩) rfl rfl rfl (Nat.le_of_ble_eq_true rfl) ⟨Nat.le_of_ble_eq_true rfl, Nat.le_of_ble_eq_true rfl⟩ ⟨Nat.zero_le _, Nat.zero_le _⟩ dX2_canSail_19 (fun r10 M9 h => ?_)
      refine ra_if_ne (tgt := 29) E dX2_canSail_22 (by decide) (fun q11 => ?_) (fun q11 => ?_)
      · replace h := h.1 q11
        refine ra_iconst E dX2_canSail_29 ki_0 ?_
        exact ra_zret E hr rfl dX2_canSail_30 ⟨Or.inl rfl, h⟩
      · replace h := h.2 q11
        refine ra_iconst E dX2_canSail_25 ki_1 ?_
        refine ra_goto (tgt := 30) E dX2_canSail_26 (by decide) ?_
        exact ra_zret E hr rfl dX2_canSail_30 ⟨Or.inr rfl, h⟩
def f_X2_canGive (a0 : Nat) (p1 : Int32) (p2 : Int32) (M : TM) (K : Int32 → TM → Prop) : Prop := f_X2_hasBarge a0 p1 M (fun r2 M1 => ((r2 = 0 → K (0 : Int32) M1) ∧ (¬ r2 = 0 → f_X2_hasOrder a0 p2 M1 (fun r6 M5 => ((r6 = 0 → K (0 : Int32) M5) ∧ (¬ r6 = 0 → vp_in p2 30 ∧ vp_in (M5 (a0 + 31 + p2.toNatClampNeg) 6) 5 ∧ ((¬ (M5 (a0 + 31 + p2.toNatClampNeg) 6) = (0 : Int32) → K (0 : Int32) M5) ∧ ((M5 (a0 + 31 + p2.toNatClampNeg) 6) = (0 : Int32) → f_X2_countHeldBy a0 p1 M5 (fun r13 M12 => (((4 : Int32) ≤ r13 → K (0 : Int32) M12) ∧ (¬ (4 : Int32) ≤ r13 → K (1 : Int32) M12)))))))))))
set_option maxRecDepth 100000 in
set_option maxHeartbeats 4000000 in
theorem c_X2_canGive {ad : Nat → Nat} (a0 : Nat) (h0 : IsCanal a0) (p1 : Int32) (p2 : Int32) (M : TM) (K : Int32 → TM → Prop) (h : f_X2_canGive a0 p1 p2 M K) : MI yX2_canGive cX2_canGive 3 (some .boolean) 2 ad [.ref (ad a0), .int p1, .int p2] M (fun r M' => (r = 0 ∨ r = 1) ∧ K r M') := by
  refine MI_of RX2 rfl (by decide +kernel) (Nat.le_of_ble_eq_true rfl) (fun p l e s m below meth c D tc E hr => ?_)
  unfold f_X2_canGive at h
  refine ra_aload_n E dX2_canGive_0 rfl 0 rfl ?_
  refine ra_iload_n E dX2_canGive_1 rfl 1 rfl ?_
  refine ra_callIV (rest := []) E (c_X2_hasBarge _ h0 _ _ _ h) (lq_X2 _) cv_X2_hasBarge ml_X2_162 (by decide) (lm (h0.add (j := 0) (by decide))) (fun R => ⟨_, cel_canal tc ad h0 R⟩) rfl rfl rfl (Nat.le_of_ble_eq_true rfl) ⟨Nat.le_of_ble_eq_true rfl, Nat.le_of_ble_eq_true rfl⟩ ⟨Nat.zero_le _, Nat.zero_le _⟩ dX2_canGive_2 (fun r2 M1 h => ?_)
  obtain ⟨b3, h⟩ := h
  refine ra_if_eq (tgt := 44) E dX2_canGive_5 (by decide) (fun q4 => ?_) (fun q4 => ?_)
  · replace h := h.1 q4
    refine ra_iconst E dX2_canGive_44 ki_0 ?_
    exact ra_zret E hr rfl dX2_canGive_45 ⟨Or.inl rfl, h⟩
  · replace h := h.2 q4
    refine ra_aload_n E dX2_canGive_8 rfl 0 rfl ?_
    refine ra_iload_n E dX2_canGive_9 rfl 2 rfl ?_
    refine ra_callIV (rest := []) E (c_X2_hasOrder _ h0 _ _ _ h) (lq_X2 _) cv_X2_hasOrder ml_X2_122 (by decide) (lm (h0.add (j := 0) (by decide))) (fun R => ⟨_, cel_canal tc ad h0 R⟩) rfl rfl rfl (Nat.le_of_ble_eq_true rfl) ⟨Nat.le_of_ble_eq_true rfl, Nat.le_of_ble_eq_true rfl⟩ ⟨Nat.zero_le _, Nat.zero_le _⟩ dX2_canGive_10 (fun r6 M5 h => ?_)
    obtain ⟨b7, h⟩ := h
    refine ra_if_eq (tgt := 44) E dX2_canGive_13 (by decide) (fun q8 => ?_) (fun q8 => ?_)
    · replace h := h.1 q8
      refine ra_iconst E dX2_canGive_44 ki_0 ?_
      exact ra_zret E hr rfl dX2_canGive_45 ⟨Or.inl rfl, h⟩
    · replace h := h.2 q8
      refine ra_aload_n E dX2_canGive_16 rfl 0 rfl ?_
      refine gf_X2_7 E h0 fl_X2_42 dX2_canGive_17 ?_
      refine ra_iload_n E dX2_canGive_20 rfl 2 rfl ?_
      obtain ⟨g9, h⟩ := h
      refine ra_aald E (lm (h0.add (by decide))) (cel_ords tc ad h0) rfl g9 dX2_canGive_21 ?_
      refine gf_X6_6 E (isOrder_of h0 g9) fl_X2_132 dX2_canGive_22 ?_
      refine gs_O (i := 0) E 0 (by decide) rfl (by decide) fl_X2_136 dX2_canGive_25 ?_
      obtain ⟨g11, h⟩ := h
      refine acmpO_ne (tgt := 44) E g11 (vpl _ _ (by decide)) dX2_canGive_28 (by decide) (fun q10 => ?_) (fun q10 => ?_)
      · replace h := h.1 q10
        refine ra_iconst E dX2_canGive_44 ki_0 ?_
        exact ra_zret E hr rfl dX2_canGive_45 ⟨Or.inl rfl, h⟩
      · replace h := h.2 q10
        refine ra_aload_n E dX2_canGive_31 rfl 0 rfl ?_
        refine ra_iload_n E dX2_canGive_32 rfl 1 rfl ?_
        refine ra_callIV (rest := []) E (c_X2_countHeldBy _ h0 _ _ _ h) (lq_X2 _) cv_X2_countHeldBy ml_X2_200 (by decide) (lm (h0.add (j := 0) (by decide))) (fun R => ⟨_, cel_canal tc ad h0 R⟩) rfl rfl rfl (Nat.le_of_ble_eq_true rfl) ⟨Nat.le_of_ble_eq_true rfl, Nat.le_of_ble_eq_true rfl⟩ ⟨Nat.zero_le _, Nat.zero_le _⟩ dX2_canGive_33 (fun r13 M12 h => ?_)
        refine ra_iconst E dX2_canGive_36 ki_4 ?_
        refine ra_icmp_ge (tgt := 44) E dX2_canGive_37 (by decide) (fun q14 => ?_) (fun q14 => ?_)
        · replace h := h.1 q14
          refine ra_iconst E dX2_canGive_44 ki_0 ?_
          exact ra_zret E hr rfl dX2_canGive_45 ⟨Or.inl rfl, h⟩
        · replace h := h.2 q14
          refine ra_iconst E dX2_canGive_40 ki_1 ?_
          refine ra_goto (tgt := 45) E dX2_canGive_41 (by decide) ?_
          exact ra_zret E hr rfl dX2_canGive_45 ⟨Or.inr rfl, h⟩
def f_X2_canReopen (a0 : Nat) (p1 : Int32) (M : TM) (K : Int32 → TM → Prop) : Prop := f_X2_hasOrder a0 p1 M (fun r2 M1 => ((r2 = 0 → K (0 : Int32) M1) ∧ (¬ r2 = 0 → vp_in p1 30 ∧ f_X6_isHeld (a0 + 31 + p1.toNatClampNeg) M1 (fun r7 M6 => ((r7 = 0 → K (0 : Int32) M6) ∧ (¬ r7 = 0 → K (1 : Int32) M6))))))
set_option maxRecDepth 100000 in
set_option maxHeartbeats 4000000 in
theorem c_X2_canReopen {ad : Nat → Nat} (a0 : Nat) (h0 : IsCanal a0) (p1 : Int32) (M : TM) (K : Int32 → TM → Prop) (h : f_X2_canReopen a0 p1 M K) : MI yX2_canReopen cX2_canReopen 2 (some .boolean) 1 ad [.ref (ad a0), .int p1] M (fun r M' => (r = 0 ∨ r = 1) ∧ K r M') := by
  refine MI_of RX2 rfl (by decide +kernel) (Nat.le_of_ble_eq_true rfl) (fun p l e s m below meth c D tc E hr => ?_)
  unfold f_X2_canReopen at h
  refine ra_aload_n E dX2_canReopen_0 rfl 0 rfl ?_
  refine ra_iload_n E dX2_canReopen_1 rfl 1 rfl ?_
  refine ra_callIV (rest := []) E (c_X2_hasOrder _ h0 _ _ _ h) (lq_X2 _) cv_X2_hasOrder ml_X2_122 (by decide) (lm (h0.add (j := 0) (by decide))) (fun R => ⟨_, cel_canal tc ad h0 R⟩) rfl rfl rfl (Nat.le_of_ble_eq_true rfl) ⟨Nat.le_of_ble_eq_true rfl, Nat.le_of_ble_eq_true rfl⟩ ⟨Nat.zero_le _, Nat.zero_le _⟩ dX2_canReopen_2 (fun r2 M1 h => ?_)
  obtain ⟨b3, h⟩ := h
  refine ra_if_eq (tgt := 24) E dX2_canReopen_5 (by decide) (fun q4 => ?_) (fun q4 => ?_)
  · replace h := h.1 q4
    refine ra_iconst E dX2_canReopen_24 ki_0 ?_
    exact ra_zret E hr rfl dX2_canReopen_25 ⟨Or.inl rfl, h⟩
  · replace h := h.2 q4
    refine ra_aload_n E dX2_canReopen_8 rfl 0 rfl ?_
    refine gf_X2_7 E h0 fl_X2_42 dX2_canReopen_9 ?_
    refine ra_iload_n E dX2_canReopen_12 rfl 1 rfl ?_
    obtain ⟨g5, h⟩ := h
    refine ra_aald E (lm (h0.add (by decide))) (cel_ords tc ad h0) rfl g5 dX2_canReopen_13 ?_
    refine ra_callIV (rest := []) E (c_X6_isHeld _ (isOrder_of h0 g5) _ _ h) (lq_X6 _) cv_X6_isHeld ml_X2_112 (by decide) (lm (isOrder_of h0 g5).lt) (fun R => ⟨_, cel_order tc ad (isOrder_of h0 g5) R⟩) rfl rfl rfl (Nat.le_of_ble_eq_true rfl) ⟨Nat.le_of_ble_eq_true rfl, Nat.le_of_ble_eq_true rfl⟩ ⟨Nat.zero_le _, Nat.zero_le _⟩ dX2_canReopen_14 (fun r7 M6 h => ?_)
    obtain ⟨b8, h⟩ := h
    refine ra_if_eq (tgt := 24) E dX2_canReopen_17 (by decide) (fun q9 => ?_) (fun q9 => ?_)
    · replace h := h.1 q9
      refine ra_iconst E dX2_canReopen_24 ki_0 ?_
      exact ra_zret E hr rfl dX2_canReopen_25 ⟨Or.inl rfl, h⟩
    · replace h := h.2 q9
      refine ra_iconst E dX2_canReopen_20 ki_1 ?_
      refine ra_goto (tgt := 25) E dX2_canReopen_21 (by decide) ?_
      exact ra_zret E hr rfl dX2_canReopen_25 ⟨Or.inr rfl, h⟩
def f_X2_reopen (a0 : Nat) (p1 : Int32) (M : TM) (K : TM → Prop) : Prop := f_X2_hasOrder a0 p1 M (fun r2 M1 => ((r2 = 0 → K M1) ∧ (¬ r2 = 0 → f_X2_removeFromQueue a0 p1 M1 (fun M5 => vp_in p1 30 ∧ f_X6_open (a0 + 31 + p1.toNatClampNeg) M5 (fun M7 => K M7)))))
set_option maxRecDepth 100000 in
set_option maxHeartbeats 4000000 in
theorem c_X2_reopen {ad : Nat → Nat} (a0 : Nat) (h0 : IsCanal a0) (p1 : Int32) (M : TM) (K : TM → Prop) (h : f_X2_reopen a0 p1 M K) : MV yX2_reopen cX2_reopen 2 2 ad [.ref (ad a0), .int p1] M K := by
  refine MV_of RX2 rfl (by decide +kernel) (Nat.le_of_ble_eq_true rfl) (fun p l e s m below meth c D tc E hr => ?_)
  unfold f_X2_reopen at h
  refine ra_aload_n E dX2_reopen_0 rfl 0 rfl ?_
  refine ra_iload_n E dX2_reopen_1 rfl 1 rfl ?_
  refine ra_callIV (rest := []) E (c_X2_hasOrder _ h0 _ _ _ h) (lq_X2 _) cv_X2_hasOrder ml_X2_122 (by decide) (lm (h0.add (j := 0) (by decide))) (fun R => ⟨_, cel_canal tc ad h0 R⟩) rfl rfl rfl (Nat.le_of_ble_eq_true rfl) ⟨Nat.le_of_ble_eq_true rfl, Nat.le_of_ble_eq_true rfl⟩ ⟨Nat.zero_le _, Nat.zero_le _⟩ dX2_reopen_2 (fun r2 M1 h => ?_)
  obtain ⟨b3, h⟩ := h
  refine ra_if_eq (tgt := 22) E dX2_reopen_5 (by decide) (fun q4 => ?_) (fun q4 => ?_)
  · replace h := h.1 q4
    exact ra_vret E hr dX2_reopen_22 h
  · replace h := h.2 q4
    refine ra_aload_n E dX2_reopen_8 rfl 0 rfl ?_
    refine ra_iload_n E dX2_reopen_9 rfl 1 rfl ?_
    refine ra_callVV (rest := []) E (c_X2_removeFromQueue _ h0 _ _ _ h) (lq_X2 _) cv_X2_removeFromQueue ml_X2_210 (by decide) (lm (h0.add (j := 0) (by decide))) (fun R => ⟨_, cel_canal tc ad h0 R⟩) rfl rfl rfl (Nat.le_of_ble_eq_true rfl) ⟨Nat.le_of_ble_eq_true rfl, Nat.le_of_ble_eq_true rfl⟩ ⟨Nat.zero_le _, Nat.zero_le _⟩ dX2_reopen_10 (fun M5 h => ?_)
    refine ra_aload_n E dX2_reopen_13 rfl 0 rfl ?_
    refine gf_X2_7 E h0 fl_X2_42 dX2_reopen_14 ?_
    refine ra_iload_n E dX2_reopen_17 rfl 1 rfl ?_
    obtain ⟨g6, h⟩ := h
    refine ra_aald E (lm (h0.add (by decide))) (cel_ords tc ad h0) rfl g6 dX2_reopen_18 ?_
    refine ra_callVV (rest := []) E (c_X6_open _ (isOrder_of h0 g6) _ _ h) (lq_X6 _) cv_X6_open ml_X2_213 (by decide) (lm (isOrder_of h0 g6).lt) (fun R => ⟨_, cel_order tc ad (isOrder_of h0 g6) R⟩) rfl rfl rfl (Nat.le_of_ble_eq_true rfl) ⟨Nat.le_of_ble_eq_true rfl, Nat.le_of_ble_eq_true rfl⟩ ⟨Nat.zero_le _, Nat.zero_le _⟩ dX2_reopen_19 (fun M7 h => ?_)
    exact ra_vret E hr dX2_reopen_22 h
def f_X2_moveBarges_L2 (a0 : Nat) (K : TM → Prop) : Nat → Int32 → TM → Prop
  | 0, _, _ => False
  | n + 1, x1, M => (((M a0 4) ≤ x1 → K M) ∧ (¬ (M a0 4) ≤ x1 → vp_in x1 5 ∧ f_X1_isUnderWay (a0 + 21 + 2 * x1.toNatClampNeg) M (fun r4 M3 => ((r4 = 0 → f_X2_moveBarges_L2 a0 K n (x1 + 1) M3) ∧ (¬ r4 = 0 → vp_in x1 5 ∧ f_X2_move a0 x1 (a0 + 21 + 2 * x1.toNatClampNeg) M3 (fun M8 => f_X2_moveBarges_L2 a0 K n (x1 + 1) M8))))))
set_option maxRecDepth 100000 in
set_option maxHeartbeats 4000000 in
theorem l_X2_moveBarges_L2 {p : Program} {l : Launch} {e : Env} {s : State} {m : MethodId} {args : Array Value} {below : List Frame} {meth : Method} {c : Code} {D : va_G} {tc : Nat → ClassId} {ad : Nat → Nat} (a0 : Nat) (h0 : IsCanal a0) {K : TM → Prop} (E : Ev p s m args meth c D tc ad RX2 cX2_moveBarges 2) (hr : meth.sig.returnType = none) : ∀ (n : Nat) (x1 : Int32) (M : TM) , f_X2_moveBarges_L2 a0 K n x1 M → Wa p l e (rmD 2) s m args below meth c 0 0 (MQ below (va_Qv K (EndW D tc ad) (A0 ad s.heap.size)) args s 0 0 (A0 ad s.heap.size)) D tc ad 2 M 2 [(0, .ref (ad a0)), (1, .int x1)] [] := by
  intro n
  induction n with
  | zero => intro x1 M  h; exact h.elim
  | succ n ih =>
    intro x1 M  h
    unfold f_X2_moveBarges_L2 at h
    refine ra_iload_n E dX2_moveBarges_2 rfl 1 rfl ?_
    refine ra_aload_n E dX2_moveBarges_3 rfl 0 rfl ?_
    refine gf_X2_4 E h0 fl_X2_28 dX2_moveBarges_4 ?_
    refine ra_icmp_ge (tgt := 39) E dX2_moveBarges_7 (by decide) (fun q1 => ?_) (fun q1 => ?_)
    · replace h := h.1 q1
      exact ra_vret E hr dX2_moveBarges_39 h
    · replace h := h.2 q1
      refine ra_aload_n E dX2_moveBarges_10 rfl 0 rfl ?_
      refine gf_X2_5 E h0 fl_X2_33 dX2_moveBarges_11 ?_
      refine ra_iload_n E dX2_moveBarges_14 rfl 1 rfl ?_
      obtain ⟨g2, h⟩ := h
      refine ra_aald E (lm (h0.add (by decide))) (cel_bars tc ad h0) rfl g2 dX2_moveBarges_15 ?_
      refine ra_callIV (rest := []) E (c_X1_isUnderWay _ (isBarge_of h0 g2) _ _ h) (lq_X1 _) cv_X1_isUnderWay ml_X2_165 (by decide) (lm (Nat.lt_of_succ_lt (isBarge_of h0 g2).lt)) (fun R => ⟨_, cel_barge tc ad (isBarge_of h0 g2) R⟩) rfl rfl rfl (Nat.le_of_ble_eq_true rfl) ⟨Nat.le_of_ble_eq_true rfl, Nat.le_of_ble_eq_true rfl⟩ ⟨Nat.zero_le _, Nat.zero_le _⟩ dX2_moveBarges_16 (fun r4 M3 h => ?_)
      obtain ⟨b5, h⟩ := h
      refine ra_if_eq (tgt := 33) E dX2_moveBarges_19 (by decide) (fun q6 => ?_) (fun q6 => ?_)
      · replace h := h.1 q6
        refine ra_iinc1 (L' := [(1, _), (0, _)]) E dX2_moveBarges_33 1 rfl (by decide) rfl ?_
        refine ra_goto (tgt := 2) E dX2_moveBarges_36 (by decide) ?_
        exact ra_sub (L' := [(0, _), (1, _)]) [1, 0] rfl (ih _ _ h)
      · replace h := h.2 q6
        refine ra_aload_n E dX2_moveBarges_22 rfl 0 rfl ?_
        refine ra_iload_n E dX2_moveBarges_23 rfl 1 rfl ?_
        refine ra_aload_n E dX2_moveBarges_24 rfl 0 rfl ?_
        refine gf_X2_5 E h0 fl_X2_33 dX2_moveBarges_25 ?_
        refine ra_iload_n E dX2_moveBarges_28 rfl 1 rfl ?_
        obtain ⟨g7, h⟩ := h
        refine ra_aald E (lm (h0.add (by decide))) (cel_bars tc ad h0) rfl g7 dX2_moveBarges_29 ?_
        refine ra_callVV (rest := []) E (c_X2_move _ h0 _ _ (isBarge_of h0 g7) _ _ h) (lq_X2 _) cv_X2_move ml_X2_240 (by decide) (lm (h0.add (j := 0) (by decide))) (fun R => ⟨_, cel_canal tc ad h0 R⟩) rfl rfl rfl (Nat.le_of_ble_eq_true rfl) ⟨Nat.le_of_ble_eq_true rfl, Nat.le_of_ble_eq_true rfl⟩ ⟨Nat.zero_le _, Nat.zero_le _⟩ dX2_moveBarges_30 (fun M8 h => ?_)
        refine ra_iinc1 (L' := [(1, _), (0, _)]) E dX2_moveBarges_33 1 rfl (by decide) rfl ?_
        refine ra_goto (tgt := 2) E dX2_moveBarges_36 (by decide) ?_
        exact ra_sub (L' := [(0, _), (1, _)]) [1, 0] rfl (ih _ _ h)
def f_X2_moveBarges (a0 : Nat) (M : TM) (K : TM → Prop) : Prop := ∃ n, f_X2_moveBarges_L2 a0 K n (0 : Int32) M
set_option maxRecDepth 100000 in
set_option maxHeartbeats 4000000 in
theorem c_X2_moveBarges {ad : Nat → Nat} (a0 : Nat) (h0 : IsCanal a0) (M : TM) (K : TM → Prop) (h : f_X2_moveBarges a0 M K) : MV yX2_moveBarges cX2_moveBarges 2 2 ad [.ref (ad a0)] M K := by
  refine MV_of RX2 rfl (by decide +kernel) (Nat.le_of_ble_eq_true rfl) (fun p l e s m below meth c D tc E hr => ?_)
  unfold f_X2_moveBarges at h
  refine ra_iconst E dX2_moveBarges_0 ki_0 ?_
  refine ra_istore_n (L' := [(1, _), (0, _)]) E dX2_moveBarges_1 rfl (by decide) rfl ?_
  obtain ⟨n9, h⟩ := h
  exact ra_sub (L' := [(0, _), (1, _)]) [1, 0] rfl (l_X2_moveBarges_L2 a0 h0 E hr n9 _ _ h)
def f_X2_pullNoodles_L2 (a0 : Nat) (K : TM → Prop) : Nat → Int32 → TM → Prop
  | 0, _, _ => False
  | n + 1, x1, M => (((M a0 4) ≤ x1 → K M) ∧ (¬ (M a0 4) ≤ x1 → vp_in x1 5 ∧ f_X1_queuedAt (a0 + 21 + 2 * x1.toNatClampNeg) (0 : Int32) M (fun r4 M3 => f_X2_hasOrder a0 r4 M3 (fun r6 M5 => ((r6 = 0 → f_X2_pullNoodles_L2 a0 K n (x1 + 1) M5) ∧ (¬ r6 = 0 → vp_in x1 5 ∧ vp_in r4 30 ∧ f_X2_pull a0 (a0 + 21 + 2 * x1.toNatClampNeg) (a0 + 31 + r4.toNatClampNeg) r4 M5 (fun M11 => f_X2_pullNoodles_L2 a0 K n (x1 + 1) M11)))))))
set_option maxRecDepth 100000 in
set_option maxHeartbeats 4000000 in
theorem l_X2_pullNoodles_L2 {p : Program} {l : Launch} {e : Env} {s : State} {m : MethodId} {args : Array Value} {below : List Frame} {meth : Method} {c : Code} {D : va_G} {tc : Nat → ClassId} {ad : Nat → Nat} (a0 : Nat) (h0 : IsCanal a0) {K : TM → Prop} (E : Ev p s m args meth c D tc ad RX2 cX2_pullNoodles 3) (hr : meth.sig.returnType = none) : ∀ (n : Nat) (x1 : Int32) (M : TM) , f_X2_pullNoodles_L2 a0 K n x1 M → Wa p l e (rmD 2) s m args below meth c 0 0 (MQ below (va_Qv K (EndW D tc ad) (A0 ad s.heap.size)) args s 0 0 (A0 ad s.heap.size)) D tc ad 3 M 2 [(0, .ref (ad a0)), (1, .int x1)] [] := by
  intro n
  induction n with
  | zero => intro x1 M  h; exact h.elim
  | succ n ih =>
    intro x1 M  h
    unfold f_X2_pullNoodles_L2 at h
    refine ra_iload_n E dX2_pullNoodles_2 rfl 1 rfl ?_
    refine ra_aload_n E dX2_pullNoodles_3 rfl 0 rfl ?_
    refine gf_X2_4 E h0 fl_X2_28 dX2_pullNoodles_4 ?_
    refine ra_icmp_ge (tgt := 52) E dX2_pullNoodles_7 (by decide) (fun q1 => ?_) (fun q1 => ?_)
    · replace h := h.1 q1
      exact ra_vret E hr dX2_pullNoodles_52 h
    · replace h := h.2 q1
      refine ra_aload_n E dX2_pullNoodles_10 rfl 0 rfl ?_
      refine gf_X2_5 E h0 fl_X2_33 dX2_pullNoodles_11 ?_
      refine ra_iload_n E dX2_pullNoodles_14 rfl 1 rfl ?_
      obtain ⟨g2, h⟩ := h
      refine ra_aald E (lm (h0.add (by decide))) (cel_bars tc ad h0) rfl g2 dX2_pullNoodles_15 ?_
      refine ra_iconst E dX2_pullNoodles_16 ki_0 ?_
      refine ra_callIV (rest := []) E (c_X1_queuedAt _ (isBarge_of h0 g2) _ _ _ h) (lq_X1 _) cv_X1_queuedAt ml_X2_118 (by decide) (lm (Nat.lt_of_succ_lt (isBarge_of h0 g2).lt)) (fun R => ⟨_, cel_barge tc ad (isBarge_of h0 g2) R⟩) rfl rfl rfl (Nat.le_of_ble_eq_true rfl) ⟨Nat.le_of_ble_eq_true rfl, Nat.le_of_ble_eq_true rfl⟩ ⟨Nat.zero_le _, Nat.zero_le _⟩ dX2_pullNoodles_17 (fun r4 M3 h => ?_)
      refine ra_istore_n (L' := [(2, _), (0, _), (1, _)]) E dX2_pullNoodles_20 rfl (by decide) rfl ?_
      refine ra_aload_n E dX2_pullNoodles_21 rfl 1 rfl ?_
      refine ra_iload_n E dX2_pullNoodles_22 rfl 0 rfl ?_
      refine ra_callIV (rest := []) E (c_X2_hasOrder _ h0 _ _ _ h) (lq_X2 _) cv_X2_hasOrder ml_X2_122 (by decide) (lm (h0.add (j := 0) (by decide))) (fun R => ⟨_, cel_canal tc ad h0 R⟩) rfl rfl rfl (Nat.le_of_ble_eq_true rfl) ⟨Nat.le_of_ble_eq_true rfl, Nat.le_of_ble_eq_true rfl⟩ ⟨Nat.zero_le _, Nat.zero_le _⟩ dX2_pullNoodles_23 (fun r6 M5 h => ?_)
      obtain ⟨b7, h⟩ := h
      refine ra_if_eq (tgt := 46) E dX2_pullNoodles_26 (by decide) (fun q8 => ?_) (fun q8 => ?_)
      · replace h := h.1 q8
        refine ra_iinc1 (L' := [(1, _), (2, _), (0, _)]) E dX2_pullNoodles_46 2 rfl (by decide) rfl ?_
        refine ra_goto (tgt := 2) E dX2_pullNoodles_49 (by decide) ?_
        exact ra_sub (L' := [(0, _), (1, _)]) [2, 0] rfl (ih _ _ h)
      · replace h := h.2 q8
        refine ra_aload_n E dX2_pullNoodles_29 rfl 1 rfl ?_
        refine ra_aload_n E dX2_pullNoodles_30 rfl 1 rfl ?_
        refine gf_X2_5 E h0 fl_X2_33 dX2_pullNoodles_31 ?_
        refine ra_iload_n E dX2_pullNoodles_34 rfl 2 rfl ?_
        obtain ⟨g9, h⟩ := h
        refine ra_aald E (lm (h0.add (by decide))) (cel_bars tc ad h0) rfl g9 dX2_pullNoodles_35 ?_
        refine ra_aload_n E dX2_pullNoodles_36 rfl 1 rfl ?_
        refine gf_X2_7 E h0 fl_X2_42 dX2_pullNoodles_37 ?_
        refine ra_iload_n E dX2_pullNoodles_40 rfl 0 rfl ?_
        obtain ⟨g10, h⟩ := h
        refine ra_aald E (lm (h0.add (by decide))) (cel_ords tc ad h0) rfl g10 dX2_pullNoodles_41 ?_
        refine ra_iload_n E dX2_pullNoodles_42 rfl 0 rfl ?_
        refine ra_callVV (rest := []) E (c_X2_pull _ h0 _ (isBarge_of h0 g9) _ (isOrder_of h0 g10) _ _ _ h) (lq_X2 _) cv_X2_pull ml_X2_250 (by decide) (lm (h0.add (j := 0) (by decide))) (fun R => ⟨_, cel_canal tc ad h0 R⟩) rfl rfl rfl (Nat.le_of_ble_eq_true rfl) ⟨Nat.le_of_ble_eq_true rfl, Nat.le_of_ble_eq_true rfl⟩ ⟨Nat.zero_le _, Nat.zero_le _⟩ dX2_pullNoodles_43 (fun M11 h => ?_)
        refine ra_iinc1 (L' := [(1, _), (2, _), (0, _)]) E dX2_pullNoodles_46 2 rfl (by decide) rfl ?_
        refine ra_goto (tgt := 2) E dX2_pullNoodles_49 (by decide) ?_
        exact ra_sub (L' := [(0, _), (1, _)]) [2, 0] rfl (ih _ _ h)
def f_X2_pullNoodles (a0 : Nat) (M : TM) (K : TM → Prop) : Prop := ∃ n, f_X2_pullNoodles_L2 a0 K n (0 : Int32) M
set_option maxRecDepth 100000 in
set_option maxHeartbeats 4000000 in
theorem c_X2_pullNoodles {ad : Nat → Nat} (a0 : Nat) (h0 : IsCanal a0) (M : TM) (K : TM → Prop) (h : f_X2_pullNoodles a0 M K) : MV yX2_pullNoodles cX2_pullNoodles 3 2 ad [.ref (ad a0)] M K := by
  refine MV_of RX2 rfl (by decide +kernel) (Nat.le_of_ble_eq_true rfl) (fun p l e s m below meth c D tc E hr => ?_)
  unfold f_X2_pullNoodles at h
  refine ra_iconst E dX2_pullNoodles_0 ki_0 ?_
  refine ra_istore_n (L' := [(1, _), (0, _)]) E dX2_pullNoodles_1 rfl (by decide) rfl ?_
  obtain ⟨n12, h⟩ := h
  exact ra_sub (L' := [(0, _), (1, _)]) [1, 0] rfl (l_X2_pullNoodles_L2 a0 h0 E hr n12 _ _ h)
def f_X2_serve (a0 : Nat) (a1 : Nat) (a2 : Nat) (M : TM) (K : TM → Prop) : Prop := f_X1_isInLock a1 M (fun r2 M1 => ((¬ r2 = 0 → K M1) ∧ (r2 = 0 → ((¬ (M1 a1 0) = (M a2 0) → K M1) ∧ ((M1 a1 0) = (M a2 0) → (((M1 a1 5) < (M1 a2 1) → K M1) ∧ (¬ (M1 a1 5) < (M1 a2 1) → f_X2_hasPlace a0 (M a2 0) M1 (fun r8 M7 => ((¬ r8 = 0 → ∀ M11, M11 = u2 M7 a1 5 ((M7 a1 5) - (M7 a2 1)) → vp_in (M a2 0) 16 ∧ vp_in (M a2 0) 16 ∧ ∀ M14, M14 = u2 M11 (a0 + 2) (M a2 0).toNatClampNeg ((M11 (a0 + 2) (M a2 0).toNatClampNeg) + (M11 a2 1)) → vp_in (M a2 0) 16 ∧ vp_in (M a2 0) 16 ∧ ∀ M17, M17 = u2 M14 (a0 + 3) (M a2 0).toNatClampNeg ((M14 (a0 + 3) (M a2 0).toNatClampNeg) + (M14 a2 1)) → ∀ M18, M18 = u2 M17 a0 11 ((M17 a0 11) + (M17 a2 1)) → ∀ M19, M19 = u2 M18 a0 12 ((M18 a0 12) + (1 : Int32)) → f_X6_worth a2 M19 (fun r21 M20 => ∀ M22, M22 = u2 M20 a0 9 ((M19 a0 9) + r21) → f_X6_finish a2 (3 : Int32) M22 (fun M23 => K M23))) ∧ (r8 = 0 → K M7))))))))))
set_option maxRecDepth 100000 in
set_option maxHeartbeats 4000000 in
theorem c_X2_serve {ad : Nat → Nat} (a0 : Nat) (h0 : IsCanal a0) (a1 : Nat) (h1 : IsBarge a1) (a2 : Nat) (h2 : IsOrder a2) (M : TM) (K : TM → Prop) (h : f_X2_serve a0 a1 a2 M K) : MV yX2_serve cX2_serve 4 1 ad [.ref (ad a0), .ref (ad a1), .ref (ad a2)] M K := by
  refine MV_of RX2 rfl (by decide +kernel) (Nat.le_of_ble_eq_true rfl) (fun p l e s m below meth c D tc E hr => ?_)
  unfold f_X2_serve at h
  refine ra_aload_n E dX2_serve_0 rfl 2 rfl ?_
  refine gf_X6_0 E h2 fl_X2_105 dX2_serve_1 ?_
  refine ra_istore_n (L' := [(3, _), (0, _), (1, _), (2, _)]) E dX2_serve_4 rfl (by decide) rfl ?_
  refine ra_aload_n E dX2_serve_5 rfl 2 rfl ?_
  refine ra_callIV (rest := []) E (c_X1_isInLock _ h1 _ _ h) (lq_X1 _) cv_X1_isInLock ml_X2_101 (by decide) (lm (Nat.lt_of_succ_lt h1.lt)) (fun R => ⟨_, cel_barge tc ad h1 R⟩) rfl rfl rfl (Nat.le_of_ble_eq_true rfl) ⟨Nat.le_of_ble_eq_true rfl, Nat.le_of_ble_eq_true rfl⟩ ⟨Nat.zero_le _, Nat.zero_le _⟩ dX2_serve_6 (fun r2 M1 h => ?_)
  obtain ⟨b3, h⟩ := h
  refine ra_if_ne (tgt := 39) E dX2_serve_9 (by decide) (fun q4 => ?_) (fun q4 => ?_)
  · replace h := h.1 q4
    exact ra_vret E hr dX2_serve_39 h
  · replace h := h.2 q4
    refine ra_aload_n E dX2_serve_12 rfl 2 rfl ?_
    refine gf_X1_0 E h1 fl_X2_98 dX2_serve_13 ?_
    refine ra_iload_n E dX2_serve_16 rfl 0 rfl ?_
    refine ra_icmp_ne (tgt := 39) E dX2_serve_17 (by decide) (fun q5 => ?_) (fun q5 => ?_)
    · replace h := h.1 q5
      exact ra_vret E hr dX2_serve_39 h
    · replace h := h.2 q5
      refine ra_aload_n E dX2_serve_20 rfl 2 rfl ?_
      refine gf_X1_5 E h1 fl_X2_144 dX2_serve_21 ?_
      refine ra_aload_n E dX2_serve_24 rfl 3 rfl ?_
      refine gf_X6_1 E h2 fl_X2_129 dX2_serve_25 ?_
      refine ra_icmp_lt (tgt := 39) E dX2_serve_28 (by decide) (fun q6 => ?_) (fun q6 => ?_)
      · replace h := h.1 q6
        exact ra_vret E hr dX2_serve_39 h
      · replace h := h.2 q6
        refine ra_aload_n E dX2_serve_31 rfl 1 rfl ?_
        refine ra_iload_n E dX2_serve_32 rfl 0 rfl ?_
        refine ra_callIV (rest := []) E (c_X2_hasPlace _ h0 _ _ _ h) (lq_X2 _) cv_X2_hasPlace ml_X2_90 (by decide) (lm (h0.add (j := 0) (by decide))) (fun R => ⟨_, cel_canal tc ad h0 R⟩) rfl rfl rfl (Nat.le_of_ble_eq_true rfl) ⟨Nat.le_of_ble_eq_true rfl, Nat.le_of_ble_eq_true rfl⟩ ⟨Nat.zero_le _, Nat.zero_le _⟩ dX2_serve_33 (fun r8 M7 h => ?_)
        obtain ⟨b9, h⟩ := h
        refine ra_if_ne (tgt := 40) E dX2_serve_36 (by decide) (fun q10 => ?_) (fun q10 => ?_)
        · replace h := h.1 q10
          refine ra_aload_n E dX2_serve_40 rfl 2 rfl ?_
          refine ra_dup E dX2_serve_41 rfl ?_
          refine gf_X1_5 E h1 fl_X2_144 dX2_serve_42 ?_
          refine ra_aload_n E dX2_serve_45 rfl 3 rfl ?_
          refine gf_X6_1 E h2 fl_X2_129 dX2_serve_46 ?_
          refine ra_isub E dX2_serve_49 ?_
          refine pf_X1_5 E h1 fl_X2_144 dX2_serve_50 ?_
          replace h := h _ rfl
          refine ra_aload_n E dX2_serve_53 rfl 1 rfl ?_
          refine gf_X2_2 E h0 fl_X2_21 dX2_serve_54 ?_
          refine ra_iload_n E dX2_serve_57 rfl 0 rfl ?_
          refine ra_dup2 E dX2_serve_58 rfl rfl ?_
          obtain ⟨g12, h⟩ := h
          refine ra_iald E (lm (h0.add (by decide))) (cel_used tc ad h0) g12 dX2_serve_59 ?_
          refine ra_aload_n E dX2_serve_60 rfl 3 rfl ?_
          refine gf_X6_1 E h2 fl_X2_129 dX2_serve_61 ?_
          refine ra_iadd E dX2_serve_64 ?_
          obtain ⟨g13, h⟩ := h
          refine ra_iast E (lm (h0.add (by decide))) (cel_used tc ad h0) g13 dX2_serve_65 ?_
          replace h := h _ rfl
          refine ra_aload_n E dX2_serve_66 rfl 1 rfl ?_
          refine gf_X2_3 E h0 fl_X2_25 dX2_serve_67 ?_
          refine ra_iload_n E dX2_serve_70 rfl 0 rfl ?_
          refine ra_dup2 E dX2_serve_71 rfl rfl ?_
          obtain ⟨g15, h⟩ := h
          refine ra_iald E (lm (h0.add (by decide))) (cel_eat tc ad h0) g15 dX2_serve_72 ?_
          refine ra_aload_n E dX2_serve_73 rfl 3 rfl ?_
          refine gf_X6_1 E h2 fl_X2_129 dX2_serve_74 ?_
          refine ra_iadd E dX2_serve_77 ?_
          obtain ⟨g16, h⟩ := h
          refine ra_iast E (lm (h0.add (by decide))) (cel_eat tc ad h0) g16 dX2_serve_78 ?_
          replace h := h _ rfl
          refine ra_aload_n E dX2_serve_79 rfl 1 rfl ?_
          refine ra_dup E dX2_serve_80 rfl ?_
          refine gf_X2_11 E h0 fl_X2_55 dX2_serve_81 ?_
          refine ra_aload_n E dX2_serve_84 rfl 3 rfl ?_
          refine gf_X6_1 E h2 fl_X2_129 dX2_serve_85 ?_
          refine ra_iadd E dX2_serve_88 ?_
          refine pf_X2_11 E h0 fl_X2_55 dX2_serve_89 ?_
          replace h := h _ rfl
          refine ra_aload_n E dX2_serve_92 rfl 1 rfl ?_
          refine ra_dup E dX2_serve_93 rfl ?_
          refine gf_X2_12 E h0 fl_X2_58 dX2_serve_94 ?_
          refine ra_iconst E dX2_serve_97 ki_1 ?_
          refine ra_iadd E dX2_serve_98 ?_
          refine pf_X2_12 E h0 fl_X2_58 dX2_serve_99 ?_
          replace h := h _ rfl
          refine ra_aload_n E dX2_serve_102 rfl 1 rfl ?_
          refine ra_dup E dX2_serve_103 rfl ?_
          refine gf_X2_9 E h0 fl_X2_49 dX2_serve_104 ?_
          refine ra_aload_n E dX2_serve_107 rfl 3 rfl ?_
          refine ra_callIV (rest := [_, _]) E (c_X6_worth _ h2 _ _ h) (lq_X6 _) cv_X6_worth ml_X2_264 (by decide) (lm h2.lt) (fun R => ⟨_, cel_order tc ad h2 R⟩) rfl rfl rfl (Nat.le_of_ble_eq_true rfl) ⟨Nat.le_of_ble_eq_true rfl, Nat.le_of_ble_eq_true rfl⟩ ⟨Nat.zero_le _, Nat.zero_le _⟩ dX2_serve_108 (fun r21 M20 h => ?_)
          refine ra_iadd E dX2_serve_111 ?_
          refine pf_X2_9 E h0 fl_X2_49 dX2_serve_112 ?_
          replace h := h _ rfl
          refine ra_aload_n E dX2_serve_115 rfl 3 rfl ?_
          refine gs_O (i := 3) E 3 (by decide) rfl (by decide) fl_X2_159 dX2_serve_116 ?_
          refine ra_callVV (rest := []) E (c_X6_finish _ h2 _ _ _ h) (lq_X6 _) cv_X6_finish ml_X2_267 (by decide) (lm h2.lt) (fun R => ⟨_, cel_order tc ad h2 R⟩) rfl rfl rfl (Nat.le_of_ble_eq_true rfl) ⟨Nat.le_of_ble_eq_true rfl, Nat.le_of_ble_eq_true rfl⟩ ⟨Nat.zero_le _, Nat.zero_le _⟩ dX2_serve_119 (fun M23 h => ?_)
          exact ra_vret E hr dX2_serve_122 h
        · replace h := h.2 q10
          exact ra_vret E hr dX2_serve_39 h
def f_X2_expireOrders_L2 (a0 : Nat) (K : TM → Prop) : Nat → Int32 → TM → Prop
  | 0, _, _ => False
  | n + 1, x1, M => (((M a0 6) ≤ x1 → K M) ∧ (¬ (M a0 6) ≤ x1 → vp_in x1 30 ∧ ((¬ (M (a0 + 31 + x1.toNatClampNeg) 4) = (M a0 8) → f_X2_expireOrders_L2 a0 K n (x1 + 1) M) ∧ ((M (a0 + 31 + x1.toNatClampNeg) 4) = (M a0 8) → vp_in x1 30 ∧ f_X6_canStillBeEaten (a0 + 31 + x1.toNatClampNeg) M (fun r6 M5 => ((r6 = 0 → f_X2_expireOrders_L2 a0 K n (x1 + 1) M5) ∧ (¬ r6 = 0 → f_X2_removeFromQueue a0 x1 M5 (fun M9 => vp_in x1 30 ∧ f_X6_finish (a0 + 31 + x1.toNatClampNeg) (4 : Int32) M9 (fun M11 => ∀ M12, M12 = u2 M11 a0 9 ((M11 a0 9) - (2 : Int32)) → ∀ M13, M13 = u2 M12 a0 13 ((M12 a0 13) + (1 : Int32)) → f_X2_expireOrders_L2 a0 K n (x1 + 1) M13)))))))))
set_option maxRecDepth 100000 in
set_option maxHeartbeats 4000000 in
theorem l_X2_expireOrders_L2 {p : Program} {l : Launch} {e : Env} {s : State} {m : MethodId} {args : Array Value} {below : List Frame} {meth : Method} {c : Code} {D : va_G} {tc : Nat → ClassId} {ad : Nat → Nat} (a0 : Nat) (h0 : IsCanal a0) {K : TM → Prop} (E : Ev p s m args meth c D tc ad RX2 cX2_expireOrders 2) (hr : meth.sig.returnType = none) : ∀ (n : Nat) (x1 : Int32) (M : TM) , f_X2_expireOrders_L2 a0 K n x1 M → Wa p l e (rmD 2) s m args below meth c 0 0 (MQ below (va_Qv K (EndW D tc ad) (A0 ad s.heap.size)) args s 0 0 (A0 ad s.heap.size)) D tc ad 2 M 2 [(0, .ref (ad a0)), (1, .int x1)] [] := by
  intro n
  induction n with
  | zero => intro x1 M  h; exact h.elim
  | succ n ih =>
    intro x1 M  h
    unfold f_X2_expireOrders_L2 at h
    refine ra_iload_n E dX2_expireOrders_2 rfl 1 rfl ?_
    refine ra_aload_n E dX2_expireOrders_3 rfl 0 rfl ?_
    refine gf_X2_6 E h0 fl_X2_37 dX2_expireOrders_4 ?_
    refine ra_icmp_ge (tgt := 81) E dX2_expireOrders_7 (by decide) (fun q1 => ?_) (fun q1 => ?_)
    · replace h := h.1 q1
      exact ra_vret E hr dX2_expireOrders_81 h
    · replace h := h.2 q1
      refine ra_aload_n E dX2_expireOrders_10 rfl 0 rfl ?_
      refine gf_X2_7 E h0 fl_X2_42 dX2_expireOrders_11 ?_
      refine ra_iload_n E dX2_expireOrders_14 rfl 1 rfl ?_
      obtain ⟨g2, h⟩ := h
      refine ra_aald E (lm (h0.add (by decide))) (cel_ords tc ad h0) rfl g2 dX2_expireOrders_15 ?_
      refine gf_X6_4 E (isOrder_of h0 g2) fl_X2_141 dX2_expireOrders_16 ?_
      refine ra_aload_n E dX2_expireOrders_19 rfl 0 rfl ?_
      refine gf_X2_8 E h0 fl_X2_46 dX2_expireOrders_20 ?_
      refine ra_icmp_ne (tgt := 75) E dX2_expireOrders_23 (by decide) (fun q3 => ?_) (fun q3 => ?_)
      · replace h := h.1 q3
        refine ra_iinc1 (L' := [(1, _), (0, _)]) E dX2_expireOrders_75 1 rfl (by decide) rfl ?_
        refine ra_goto (tgt := 2) E dX2_expireOrders_78 (by decide) ?_
        exact ra_sub (L' := [(0, _), (1, _)]) [1, 0] rfl (ih _ _ h)
      · replace h := h.2 q3
        refine ra_aload_n E dX2_expireOrders_26 rfl 0 rfl ?_
        refine gf_X2_7 E h0 fl_X2_42 dX2_expireOrders_27 ?_
        refine ra_iload_n E dX2_expireOrders_30 rfl 1 rfl ?_
        obtain ⟨g4, h⟩ := h
        refine ra_aald E (lm (h0.add (by decide))) (cel_ords tc ad h0) rfl g4 dX2_expireOrders_31 ?_
        refine ra_callIV (rest := []) E (c_X6_canStillBeEaten _ (isOrder_of h0 g4) _ _ h) (lq_X6 _) cv_X6_canStillBeEaten ml_X2_106 (by decide) (lm (isOrder_of h0 g4).lt) (fun R => ⟨_, cel_order tc ad (isOrder_of h0 g4) R⟩) rfl rfl rfl (Nat.le_of_ble_eq_true rfl) ⟨Nat.le_of_ble_eq_true rfl, Nat.le_of_ble_eq_true rfl⟩ ⟨Nat.zero_le _, Nat.zero_le _⟩ dX2_expireOrders_32 (fun r6 M5 h => ?_)
        obtain ⟨b7, h⟩ := h
        refine ra_if_eq (tgt := 75) E dX2_expireOrders_35 (by decide) (fun q8 => ?_) (fun q8 => ?_)
        · replace h := h.1 q8
          refine ra_iinc1 (L' := [(1, _), (0, _)]) E dX2_expireOrders_75 1 rfl (by decide) rfl ?_
          refine ra_goto (tgt := 2) E dX2_expireOrders_78 (by decide) ?_
          exact ra_sub (L' := [(0, _), (1, _)]) [1, 0] rfl (ih _ _ h)
        · replace h := h.2 q8
          refine ra_aload_n E dX2_expireOrders_38 rfl 0 rfl ?_
          refine ra_iload_n E dX2_expireOrders_39 rfl 1 rfl ?_
          refine ra_callVV (rest := []) E (c_X2_removeFromQueue _ h0 _ _ _ h) (lq_X2 _) cv_X2_removeFromQueue ml_X2_210 (by decide) (lm (h0.add (j := 0) (by decide))) (fun R => ⟨_, cel_canal tc ad h0 R⟩) rfl rfl rfl (Nat.le_of_ble_eq_true rfl) ⟨Nat.le_of_ble_eq_true rfl, Nat.le_of_ble_eq_true rfl⟩ ⟨Nat.zero_le _, Nat.zero_le _⟩ dX2_expireOrders_40 (fun M9 h => ?_)
          refine ra_aload_n E dX2_expireOrders_43 rfl 0 rfl ?_
          refine gf_X2_7 E h0 fl_X2_42 dX2_expireOrders_44 ?_
          refine ra_iload_n E dX2_expireOrders_47 rfl 1 rfl ?_
          obtain ⟨g10, h⟩ := h
          refine ra_aald E (lm (h0.add (by decide))) (cel_ords tc ad h0) rfl g10 dX2_expireOrders_48 ?_
          refine gs_O (i := 4) E 4 (by decide) rfl (by decide) fl_X2_271 dX2_expireOrders_49 ?_
          refine ra_callVV (rest := []) E (c_X6_finish _ (isOrder_of h0 g10) _ _ _ h) (lq_X6 _) cv_X6_finish ml_X2_267 (by decide) (lm (isOrder_of h0 g10).lt) (fun R => ⟨_, cel_order tc ad (isOrder_of h0 g10) R⟩) rfl rfl rfl (Nat.le_of_ble_eq_true rfl) ⟨Nat.le_of_ble_eq_true rfl, Nat.le_of_ble_eq_true rfl⟩ ⟨Nat.zero_le _, Nat.zero_le _⟩ dX2_expireOrders_52 (fun M11 h => ?_)
          refine ra_aload_n E dX2_expireOrders_55 rfl 0 rfl ?_
          refine ra_dup E dX2_expireOrders_56 rfl ?_
          refine gf_X2_9 E h0 fl_X2_49 dX2_expireOrders_57 ?_
          refine ra_iconst E dX2_expireOrders_60 ki_2 ?_
          refine ra_isub E dX2_expireOrders_61 ?_
          refine pf_X2_9 E h0 fl_X2_49 dX2_expireOrders_62 ?_
          replace h := h _ rfl
          refine ra_aload_n E dX2_expireOrders_65 rfl 0 rfl ?_
          refine ra_dup E dX2_expireOrders_66 rfl ?_
          refine gf_X2_13 E h0 fl_X2_61 dX2_expireOrders_67 ?_
          refine ra_iconst E dX2_expireOrders_70 ki_1 ?_
          refine ra_iadd E dX2_expireOrders_71 ?_
          refine pf_X2_13 E h0 fl_X2_61 dX2_expireOrders_72 ?_
          replace h := h _ rfl
          refine ra_iinc1 (L' := [(1, _), (0, _)]) E dX2_expireOrders_75 1 rfl (by decide) rfl ?_
          refine ra_goto (tgt := 2) E dX2_expireOrders_78 (by decide) ?_
          exact ra_sub (L' := [(0, _), (1, _)]) [1, 0] rfl (ih _ _ h)
def f_X2_expireOrders (a0 : Nat) (M : TM) (K : TM → Prop) : Prop := ∃ n, f_X2_expireOrders_L2 a0 K n (0 : Int32) M
set_option maxRecDepth 100000 in
set_option maxHeartbeats 4000000 in
theorem c_X2_expireOrders {ad : Nat → Nat} (a0 : Nat) (h0 : IsCanal a0) (M : TM) (K : TM → Prop) (h : f_X2_expireOrders a0 M K) : MV yX2_expireOrders cX2_expireOrders 2 2 ad [.ref (ad a0)] M K := by
  refine MV_of RX2 rfl (by decide +kernel) (Nat.le_of_ble_eq_true rfl) (fun p l e s m below meth c D tc E hr => ?_)
  unfold f_X2_expireOrders at h
  refine ra_iconst E dX2_expireOrders_0 ki_0 ?_
  refine ra_istore_n (L' := [(1, _), (0, _)]) E dX2_expireOrders_1 rfl (by decide) rfl ?_
  obtain ⟨n14, h⟩ := h
  exact ra_sub (L' := [(0, _), (1, _)]) [1, 0] rfl (l_X2_expireOrders_L2 a0 h0 E hr n14 _ _ h)
def f_X5_remember_L24 (a1 : Nat) (K : TM → Prop)  (M : TM) : Prop := vp_in (M 25 1) 8 ∧ f_X2_copyFrom (27 + 61 * (M 25 1).toNatClampNeg) a1 M (fun M4 => ∀ M5, M5 = u2 M4 25 1 ((M4 25 1) + (1 : Int32)) → ∀ M6, M6 = u2 M5 25 2 (if (8 : Int32) < ((M5 25 2) + (1 : Int32)) then (8 : Int32) else ((M5 25 2) + (1 : Int32))) → K M6)
set_option maxRecDepth 100000 in
set_option maxHeartbeats 4000000 in
theorem l_X5_remember_L24 {p : Program} {l : Launch} {e : Env} {s : State} {m : MethodId} {args : Array Value} {below : List Frame} {meth : Method} {c : Code} {D : va_G} {tc : Nat → ClassId} {ad : Nat → Nat} (a1 : Nat) (h1 : IsCanal a1) {K : TM → Prop} (E : Ev p s m args meth c D tc ad RX5 cX5_remember 2) (hr : meth.sig.returnType = none) : ∀  (M : TM) , f_X5_remember_L24 a1 K  M → Wa p l e (rmD 3) s m args below meth c 0 0 (MQ below (va_Qv K (EndW D tc ad) (A0 ad s.heap.size)) args s 0 0 (A0 ad s.heap.size)) D tc ad 2 M 24 [(0, .ref (ad 25)), (1, .ref (ad a1))] [] := by
  intro  M  h
  unfold f_X5_remember_L24 at h
  refine ra_aload_n E dX5_remember_24 rfl 0 rfl ?_
  refine gf_X5_0 E fl_X5_11 dX5_remember_25 ?_
  refine ra_aload_n E dX5_remember_28 rfl 0 rfl ?_
  refine gf_X5_1 E fl_X5_17 dX5_remember_29 ?_
  obtain ⟨g3, h⟩ := h
  refine ra_aald E (lm (by decide)) (cel_26 tc ad) rfl g3 dX5_remember_32 ?_
  refine ra_aload_n E dX5_remember_33 rfl 1 rfl ?_
  refine ra_callVV (rest := []) E (c_X2_copyFrom _ (isRing_of g3) _ h1 _ _ h) (lq_X2 _) cv_X2_copyFrom ml_X5_25 (by decide) (lm ((isRing_of g3).add (j := 0) (by decide))) (fun R => ⟨_, cel_canal tc ad (isRing_of g3) R⟩) rfl rfl rfl (Nat.le_of_ble_eq_true rfl) ⟨Nat.le_of_ble_eq_true rfl, Nat.le_of_ble_eq_true rfl⟩ ⟨Nat.zero_le _, Nat.zero_le _⟩ dX5_remember_34 (fun M4 h => ?_)
  refine ra_aload_n E dX5_remember_37 rfl 0 rfl ?_
  refine ra_dup E dX5_remember_38 rfl ?_
  refine gf_X5_1 E fl_X5_17 dX5_remember_39 ?_
  refine ra_iconst E dX5_remember_42 ki_1 ?_
  refine ra_iadd E dX5_remember_43 ?_
  refine pf_X5_1 E fl_X5_17 dX5_remember_44 ?_
  replace h := h _ rfl
  refine ra_aload_n E dX5_remember_47 rfl 0 rfl ?_
  refine ra_aload_n E dX5_remember_48 rfl 0 rfl ?_
  refine gf_X5_2 E fl_X5_21 dX5_remember_49 ?_
  refine ra_iconst E dX5_remember_52 ki_1 ?_
  refine ra_iadd E dX5_remember_53 ?_
  refine ra_aload_n E dX5_remember_54 rfl 0 rfl ?_
  refine gf_X5_0 E fl_X5_11 dX5_remember_55 ?_
  refine ra_alen (n := 8) (v := 8) E (lm (by decide)) (fun R => ⟨_, (cel_26 tc ad) R, rfl⟩) rfl (by decide) dX5_remember_58 ?_
  refine ra_mmin E ml_X5_29 ⟨Nat.le_of_ble_eq_true rfl, Nat.le_of_ble_eq_true rfl⟩ ⟨Nat.zero_le _, Nat.zero_le _⟩ dX5_remember_59 ?_
  refine pf_X5_2 E fl_X5_21 dX5_remember_62 ?_
  replace h := h _ rfl
  exact ra_vret E hr dX5_remember_65 h
def f_X5_remember_L19 (a1 : Nat) (K : TM → Prop)  (M : TM) : Prop := ∀ M2, M2 = u2 M 25 1 (0 : Int32) → f_X5_remember_L24 a1 K M2
set_option maxRecDepth 100000 in
set_option maxHeartbeats 4000000 in
theorem l_X5_remember_L19 {p : Program} {l : Launch} {e : Env} {s : State} {m : MethodId} {args : Array Value} {below : List Frame} {meth : Method} {c : Code} {D : va_G} {tc : Nat → ClassId} {ad : Nat → Nat} (a1 : Nat) (h1 : IsCanal a1) {K : TM → Prop} (E : Ev p s m args meth c D tc ad RX5 cX5_remember 2) (hr : meth.sig.returnType = none) : ∀  (M : TM) , f_X5_remember_L19 a1 K  M → Wa p l e (rmD 3) s m args below meth c 0 0 (MQ below (va_Qv K (EndW D tc ad) (A0 ad s.heap.size)) args s 0 0 (A0 ad s.heap.size)) D tc ad 2 M 19 [(0, .ref (ad 25)), (1, .ref (ad a1))] [] := by
  intro  M  h
  unfold f_X5_remember_L19 at h
  refine ra_aload_n E dX5_remember_19 rfl 0 rfl ?_
  refine ra_iconst E dX5_remember_20 ki_0 ?_
  refine pf_X5_1 E fl_X5_17 dX5_remember_21 ?_
  replace h := h _ rfl
  exact ra_sub (L' := [(0, _), (1, _)]) [0, 1] rfl (l_X5_remember_L24 a1 h1 E hr _ h)
def f_X5_remember (a1 : Nat) (M : TM) (K : TM → Prop) : Prop := (((M 25 1) < 0 → f_X5_remember_L19 a1 K M) ∧ (¬ (M 25 1) < 0 → (((M 25 1) < (8 : Int32) → f_X5_remember_L24 a1 K M) ∧ (¬ (M 25 1) < (8 : Int32) → f_X5_remember_L19 a1 K M))))
set_option maxRecDepth 100000 in
set_option maxHeartbeats 4000000 in
theorem c_X5_remember {ad : Nat → Nat} (a1 : Nat) (h1 : IsCanal a1) (M : TM) (K : TM → Prop) (h : f_X5_remember a1 M K) : MV yX5_remember cX5_remember 2 3 ad [.ref (ad 25), .ref (ad a1)] M K := by
  refine MV_of RX5 rfl (by decide +kernel) (Nat.le_of_ble_eq_true rfl) (fun p l e s m below meth c D tc E hr => ?_)
  unfold f_X5_remember at h
  refine ra_aload_n E dX5_remember_0 rfl 0 rfl ?_
  refine gf_X5_1 E fl_X5_17 dX5_remember_1 ?_
  refine ra_if_lt (tgt := 19) E dX5_remember_4 (by decide) (fun q1 => ?_) (fun q1 => ?_)
  · replace h := h.1 q1
    exact ra_sub (L' := [(0, _), (1, _)]) [0, 1] rfl (l_X5_remember_L19 a1 h1 E hr _ h)
  · replace h := h.2 q1
    refine ra_aload_n E dX5_remember_7 rfl 0 rfl ?_
    refine gf_X5_1 E fl_X5_17 dX5_remember_8 ?_
    refine ra_aload_n E dX5_remember_11 rfl 0 rfl ?_
    refine gf_X5_0 E fl_X5_11 dX5_remember_12 ?_
    refine ra_alen (n := 8) (v := 8) E (lm (by decide)) (fun R => ⟨_, (cel_26 tc ad) R, rfl⟩) rfl (by decide) dX5_remember_15 ?_
    refine ra_icmp_lt (tgt := 24) E dX5_remember_16 (by decide) (fun q7 => ?_) (fun q7 => ?_)
    · replace h := h.1 q7
      exact ra_sub (L' := [(0, _), (1, _)]) [0, 1] rfl (l_X5_remember_L24 a1 h1 E hr _ h)
    · replace h := h.2 q7
      exact ra_sub (L' := [(0, _), (1, _)]) [0, 1] rfl (l_X5_remember_L19 a1 h1 E hr _ h)
