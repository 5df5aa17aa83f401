theorem kc_X2_15 : Cond.classLink RX2 15 "NoodleCanal$Section" ∈ TS := TS_of (tin_1 _ (List.mem_of_getElem? (i := 130) (by decide +kernel))) (by decide +kernel)
theorem kc_X2_31 : Cond.classLink RX2 31 "NoodleCanal$Barge" ∈ TS := TS_of (tin_1 _ (List.mem_of_getElem? (i := 132) (by decide +kernel))) (by decide +kernel)
theorem kc_X2_40 : Cond.classLink RX2 40 "NoodleCanal$Order" ∈ TS := TS_of (tin_1 _ (List.mem_of_getElem? (i := 134) (by decide +kernel))) (by decide +kernel)
theorem kc_X5_9 : Cond.classLink RX5 9 "NoodleCanal$Canal" ∈ TS := TS_of (tin_1 _ (List.mem_of_getElem? (i := 123) (by decide +kernel))) (by decide +kernel)
theorem kc_X8_9 : Cond.classLink RX8 9 "NoodleCanal$Command" ∈ TS := TS_of (tin_1 _ (List.mem_of_getElem? (i := 79) (by decide +kernel))) (by decide +kernel)
def rCan (j : Nat) : Int32 := if j = 0 then 3 else 0
/-- a canal's first numbers: place in its block, slot -/
def mC (r : Nat) : Nat → Int32 := if r = 0 then rCan else if 6 ≤ r ∧ r < 21 then rS else if 31 ≤ r then rO else r0
def FX2 (tc : Nat → ClassId) (ad : Nat → Nat) (k r : Nat) : va_E :=
  if r = 1 then .inl (tc 3, 15, .inr (.inr (.inr (.inr (tr 15 (fun j => ad (k + 6 + j))))))) else if r = 4 then .inl (tc 4, 5, .inr (.inr (.inr (.inr (tr 5 (fun j => ad (k + 21 + 2 * j))))))) else if r = 5 then .inl (tc 5, 30, .inr (.inr (.inr (.inr (tr 30 (fun j => ad (k + 31 + j))))))) else celC tc ad (k + r) r (mC r)
theorem FX2_congr (tc : Nat → ClassId) (ad ad' : Nat → Nat) (b r : Nat) (hr : r ≤ 60) (h : ∀ k, (b ≤ k ∧ k ≤ b + 60) ∨ 2000 ≤ k → ad' k = ad k) : FX2 tc ad' b r = FX2 tc ad b r := by
  unfold FX2
  by_cases h1 : r = 1
  · rw [if_pos h1, if_pos h1, tr_congr (fun j hj => h _ (by omega))]
  rw [if_neg h1, if_neg h1]
  by_cases h4 : r = 4
  · rw [if_pos h4, if_pos h4, tr_congr (fun j hj => h _ (by omega))]
  rw [if_neg h4, if_neg h4]
  by_cases h5 : r = 5
  · rw [if_pos h5, if_pos h5, tr_congr (fun j hj => h _ (by omega))]
  rw [if_neg h5, if_neg h5]
  unfold celC
  by_cases c0 : r = 0
  · subst c0
    rw [if_pos rfl, if_pos rfl]
    show eCanal _ _ _ = eCanal _ _ _
    unfold eCanal
    rw [h (b + 0 + 1) (by omega), h (b + 0 + 2) (by omega), h (b + 0 + 3) (by omega), h (b + 0 + 4) (by omega), h (b + 0 + 5) (by omega)]
  rw [if_neg c0, if_neg c0, if_neg h1, if_neg h1, if_neg h4, if_neg h4, if_neg h5, if_neg h5]
  by_cases c6 : r < 21
  · rw [if_pos c6, if_pos c6]
  rw [if_neg c6, if_neg c6]
  by_cases c7 : r < 31
  · rw [if_pos c7, if_pos c7]
    by_cases c8 : r % 2 = 1
    · rw [if_pos c8, if_pos c8]
      unfold eBarge
      rw [h (b + r + 1) (by omega)]
    · rw [if_neg c8, if_neg c8]
  rw [if_neg c7, if_neg c7]
  unfold eOrder
  rw [h (2000 + _) (Or.inr (by omega))]
theorem FX9_congr (tc : Nat → ClassId) (ad ad' : Nat → Nat) (b r : Nat) (_ : r ≤ 0) (_ : ∀ k, (b ≤ k ∧ k ≤ b + 0) ∨ 2000 ≤ k → ad' k = ad k) : FX9 tc ad' b r = FX9 tc ad b r := rfl
theorem FX6_congr (tc : Nat → ClassId) (ad ad' : Nat → Nat) (b r : Nat) (_ : r ≤ 0) (h : ∀ k, (b ≤ k ∧ k ≤ b + 0) ∨ 2000 ≤ k → ad' k = ad k) : FX6 tc ad' b r = FX6 tc ad b r := by
  unfold FX6 eOrder
  rw [h (2000 + _) (Or.inr (by omega))]
theorem FX4_congr (tc : Nat → ClassId) (ad ad' : Nat → Nat) (b r : Nat) (_ : r ≤ 0) (h : ∀ k, (b ≤ k ∧ k ≤ b + 0) ∨ 2000 ≤ k → ad' k = ad k) : FX4 tc ad' b r = FX4 tc ad b r := by
  unfold FX4 eCommand
  rw [h (2100 + _) (Or.inr (by omega))]
theorem FX1_congr (tc : Nat → ClassId) (ad ad' : Nat → Nat) (b r : Nat) (_ : r ≤ 1) (h : ∀ k, (b ≤ k ∧ k ≤ b + 1) ∨ 2000 ≤ k → ad' k = ad k) : FX1 tc ad' b r = FX1 tc ad b r := by
  unfold FX1 eBarge
  rw [h (b + 1) (by omega)]
def FX8 (tc : Nat → ClassId) (ad : Nat → Nat) (k r : Nat) : va_E := if r = 0 then .inr (5, [.ref (ad (k + 1)), .int 0, .int 0]) else if r = 1 then .inl (tc 7, 20, .inr (.inr (.inr (.inr (tr 20 (fun j => ad (k + 2 + j))))))) else eCommand ad rCm
def FX5 (tc : Nat → ClassId) (ad : Nat → Nat) (k r : Nat) : va_E := if r = 0 then .inr (3, [.ref (ad (k + 1)), .int 0, .int 0]) else if r = 1 then .inl (tc 6, 8, .inr (.inr (.inr (.inr (tr 8 (fun j => ad (k + 2 + 61 * j))))))) else FX2 tc ad (k + 2 + 61 * ((r - 2) / 61)) ((r - 2) % 61)
theorem FX10_congr (tc : Nat → ClassId) (ad ad' : Nat → Nat) (b r : Nat) (_ : r ≤ 1) (h : ∀ k, (b ≤ k ∧ k ≤ b + 1) ∨ 2000 ≤ k → ad' k = ad k) : FX10 tc ad' b r = FX10 tc ad b r := by
  unfold FX10
  rw [h (b + 1) (by omega)]
theorem FX8_congr (tc : Nat → ClassId) (ad ad' : Nat → Nat) (b r : Nat) (_ : r ≤ 21) (h : ∀ k, (b ≤ k ∧ k ≤ b + 21) ∨ 2000 ≤ k → ad' k = ad k) : FX8 tc ad' b r = FX8 tc ad b r := by
  unfold FX8 eCommand
  rw [h (b + 1) (by omega), h (2100 + _) (Or.inr (by omega)), tr_congr (fun j hj => h _ (by omega))]
theorem FX5_congr (tc : Nat → ClassId) (ad ad' : Nat → Nat) (b r : Nat) (hr : r ≤ 489) (h : ∀ k, (b ≤ k ∧ k ≤ b + 489) ∨ 2000 ≤ k → ad' k = ad k) : FX5 tc ad' b r = FX5 tc ad b r := by
  unfold FX5
  by_cases h0 : r = 0
  · rw [if_pos h0, if_pos h0, h (b + 1) (by omega)]
  rw [if_neg h0, if_neg h0]
  by_cases h1 : r = 1
  · rw [if_pos h1, if_pos h1, tr_congr (fun j hj => h _ (by omega))]
  rw [if_neg h1, if_neg h1]
  exact FX2_congr tc ad ad' _ _ (by omega) (fun k hk => h k (by omega))
set_option maxRecDepth 100000 in
set_option maxHeartbeats 4000000 in
theorem c_X2_init : MC yX2_init cX2_init 2 3 60 432 60 (.inr (1, [.int 0, .null, .null, .null, .int 0, .null, .int 0, .null, .int 0, .int 0, .int 0, .int 0, .int 0, .int 0])) FX2 := by
  refine MC_of RX2 rfl (by decide +kernel) rfl (Nat.le_of_ble_eq_true rfl) (fun p l e s m below meth c D tc A ad0 ct0 k0 hfr0 hb E hr => ?_)
  have hA0 : ad0 k0 = ad0 k0 := rfl
  have hC0 := hfr0
  have hku : ∀ i, i ≤ k0 ∨ 1000 ≤ i → ad0 i = ad0 i := fun _ _ => rfl
  have hfr : ∀ i, i < k0 → ct0 i = ct0 i := fun _ _ => rfl
  refine rc_aload_n E dX2_init_0 rfl 0 rfl ?_
  refine rc_obj E mo_X2_3 ⟨Nat.le_of_ble_eq_true rfl, Nat.le_of_ble_eq_true rfl⟩ dX2_init_1 ?_
  refine rc_aload_n E dX2_init_4 rfl 0 rfl ?_
  refine rc_iconst E dX2_init_5 ki_3 ?_
  refine rc_put (k := k0) E (C := RX2) (T := TX2) (N := 14) (j := 0) (fs := [.int 0, .null, .null, .null, .int 0, .null, .int 0, .null, .int 0, .int 0, .int 0, .int 0, .int 0, .int 0]) (ci := 1) (by omega) hA0 hC0 rfl iT_2 tyX2 tyX2_ok nmX2 (by decide) fl_X2_9 rfl rfl (tyX2_ok 0 (by decide)) rfl rfl (Nat.le_of_ble_eq_true rfl) dX2_init_6 (fun ct1 f1 f2 => ?_)
  have hC0 : ct1 k0 = .inr (1, [.int (3 : Int32), .null, .null, .null, .int 0, .null, .int 0, .null, .int 0, .int 0, .int 0, .int 0, .int 0, .int 0]) := f1
  have hfr : ∀ i, i < k0 → ct1 i = ct0 i := fun i hi => (f2 i (by omega)).trans (hfr i hi)
  refine rc_aload_n E dX2_init_9 rfl 0 rfl ?_
  refine rc_bipush E dX2_init_10 kb_15 ?_
  refine rc_newq (N' := 15) (t := 3) E rfl (by decide +kernel) kc_X2_15 (by decide) rfl (Nat.le_of_ble_eq_true rfl) ⟨Nat.le_of_ble_eq_true rfl, Nat.le_of_ble_eq_true rfl⟩ dX2_init_12 (fun a1 ad2 ct2 f0 f1 f2 f3 => ?_)
  have hA1 : ad2 (k0 + 1) = a1 := f0
  have hC1 : ct2 (k0 + 1) = .inl (tc 3, 15, .inr (.inr (.inr (.inr (fun _ => none))))) := f2
  have hA0 := (f1 _ (by omega)).trans hA0
  have hku : ∀ i, i ≤ k0 ∨ 1000 ≤ i → ad2 i = ad0 i := fun i hi => (f1 i (by omega)).trans (hku i hi)
  have hC0 := (f3 _ (by omega)).trans hC0
  have hfr : ∀ i, i < k0 → ct2 i = ct0 i := fun i hi => (f3 i (by omega)).trans (hfr i hi)
  refine rc_putF (k := k0) E (C := RX2) (T := TX2) (N := 14) (j := 1) (fs := [.int (3 : Int32), .null, .null, .null, .int 0, .null, .int 0, .null, .int 0, .int 0, .int 0, .int 0, .int 0, .int 0]) (ci := 1) (by omega) hA0 hC0 rfl iT_2 tyX2 tyX2_ok nmX2 (by decide) fl_X2_17 rfl rfl rfl (tyX2_ok 1 (by decide)) rfl rfl (Nat.le_of_ble_eq_true rfl) dX2_init_15 (fun ct3 f1 f2 => ?_)
  have hC0 : ct3 k0 = .inr (1, [.int (3 : Int32), .ref a1, .null, .null, .int 0, .null, .int 0, .null, .int 0, .int 0, .int 0, .int 0, .int 0, .int 0]) := f1
  have hC1 := (f2 _ (by omega)).trans hC1
  have hfr : ∀ i, i < k0 → ct3 i = ct0 i := fun i hi => (f2 i (by omega)).trans (hfr i hi)
  refine rc_aload_n E dX2_init_18 rfl 0 rfl ?_
  refine rc_bipush E dX2_init_19 kb_16 ?_
  refine rc_newa_int (N' := 16) E (by decide) rfl (Nat.le_of_ble_eq_true rfl) ⟨Nat.le_of_ble_eq_true rfl, Nat.le_of_ble_eq_true rfl⟩ dX2_init_21 (fun a2 ad4 ct4 f0 f1 f2 f3 => ?_)
  have hA2 : ad4 (k0 + 2) = a2 := f0
  have hC2 : ct4 (k0 + 2) = .inl (tc 1, 16, .inl (fun _ => 0)) := f2
  have hA0 := (f1 _ (by omega)).trans hA0
  have hA1 := (f1 _ (by omega)).trans hA1
  have hku : ∀ i, i ≤ k0 ∨ 1000 ≤ i → ad4 i = ad0 i := fun i hi => (f1 i (by omega)).trans (hku i hi)
  have hC0 := (f3 _ (by omega)).trans hC0
  have hC1 := (f3 _ (by omega)).trans hC1
  have hfr : ∀ i, i < k0 → ct4 i = ct0 i := fun i hi => (f3 i (by omega)).trans (hfr i hi)
  refine rc_putF (k := k0) E (C := RX2) (T := TX2) (N := 14) (j := 2) (fs := [.int (3 : Int32), .ref a1, .null, .null, .int 0, .null, .int 0, .null, .int 0, .int 0, .int 0, .int 0, .int 0, .int 0]) (ci := 1) (by omega) hA0 hC0 rfl iT_2 tyX2 tyX2_ok nmX2 (by decide) fl_X2_21 rfl rfl rfl (tyX2_ok 2 (by decide)) rfl rfl (Nat.le_of_ble_eq_true rfl) dX2_init_23 (fun ct5 f1 f2 => ?_)
  have hC0 : ct5 k0 = .inr (1, [.int (3 : Int32), .ref a1, .ref a2, .null, .int 0, .null, .int 0, .null, .int 0, .int 0, .int 0, .int 0, .int 0, .int 0]) := f1
  have hC1 := (f2 _ (by omega)).trans hC1
  have hC2 := (f2 _ (by omega)).trans hC2
  have hfr : ∀ i, i < k0 → ct5 i = ct0 i := fun i hi => (f2 i (by omega)).trans (hfr i hi)
  refine rc_aload_n E dX2_init_26 rfl 0 rfl ?_
  refine rc_bipush E dX2_init_27 kb_16 ?_
  refine rc_newa_int (N' := 16) E (by decide) rfl (Nat.le_of_ble_eq_true rfl) ⟨Nat.le_of_ble_eq_true rfl, Nat.le_of_ble_eq_true rfl⟩ dX2_init_29 (fun a3 ad6 ct6 f0 f1 f2 f3 => ?_)
  have hA3 : ad6 (k0 + 3) = a3 := f0
  have hC3 : ct6 (k0 + 3) = .inl (tc 1, 16, .inl (fun _ => 0)) := f2
  have hA0 := (f1 _ (by omega)).trans hA0
  have hA1 := (f1 _ (by omega)).trans hA1
  have hA2 := (f1 _ (by omega)).trans hA2
  have hku : ∀ i, i ≤ k0 ∨ 1000 ≤ i → ad6 i = ad0 i := fun i hi => (f1 i (by omega)).trans (hku i hi)
  have hC0 := (f3 _ (by omega)).trans hC0
  have hC1 := (f3 _ (by omega)).trans hC1
  have hC2 := (f3 _ (by omega)).trans hC2
  have hfr : ∀ i, i < k0 → ct6 i = ct0 i := fun i hi => (f3 i (by omega)).trans (hfr i hi)
  refine rc_putF (k := k0) E (C := RX2) (T := TX2) (N := 14) (j := 3) (fs := [.int (3 : Int32), .ref a1, .ref a2, .null, .int 0, .null, .int 0, .null, .int 0, .int 0, .int 0, .int 0, .int 0, .int 0]) (ci := 1) (by omega) hA0 hC0 rfl iT_2 tyX2 tyX2_ok nmX2 (by decide) fl_X2_25 rfl rfl rfl (tyX2_ok 3 (by decide)) rfl rfl (Nat.le_of_ble_eq_true rfl) dX2_init_31 (fun ct7 f1 f2 => ?_)
  have hC0 : ct7 k0 = .inr (1, [.int (3 : Int32), .ref a1, .ref a2, .ref a3, .int 0, .null, .int 0, .null, .int 0, .int 0, .int 0, .int 0, .int 0, .int 0]) := f1
  have hC1 := (f2 _ (by omega)).trans hC1
  have hC2 := (f2 _ (by omega)).trans hC2
  have hC3 := (f2 _ (by omega)).trans hC3
  have hfr : ∀ i, i < k0 → ct7 i = ct0 i := fun i hi => (f2 i (by omega)).trans (hfr i hi)
  refine rc_aload_n E dX2_init_34 rfl 0 rfl ?_
  refine rc_iconst E dX2_init_35 ki_0 ?_
  refine rc_put (k := k0) E (C := RX2) (T := TX2) (N := 14) (j := 4) (fs := [.int (3 : Int32), .ref a1, .ref a2, .ref a3, .int 0, .null, .int 0, .null, .int 0, .int 0, .int 0, .int 0, .int 0, .int 0]) (ci := 1) (by omega) hA0 hC0 rfl iT_2 tyX2 tyX2_ok nmX2 (by decide) fl_X2_28 rfl rfl (tyX2_ok 4 (by decide)) rfl rfl (Nat.le_of_ble_eq_true rfl) dX2_init_36 (fun ct8 f1 f2 => ?_)
  have hC0 : ct8 k0 = .inr (1, [.int (3 : Int32), .ref a1, .ref a2, .ref a3, .int (0 : Int32), .null, .int 0, .null, .int 0, .int 0, .int 0, .int 0, .int 0, .int 0]) := f1
  have hC1 := (f2 _ (by omega)).trans hC1
  have hC2 := (f2 _ (by omega)).trans hC2
  have hC3 := (f2 _ (by omega)).trans hC3
  have hfr : ∀ i, i < k0 → ct8 i = ct0 i := fun i hi => (f2 i (by omega)).trans (hfr i hi)
  refine rc_aload_n E dX2_init_39 rfl 0 rfl ?_
  refine rc_iconst E dX2_init_40 ki_5 ?_
  refine rc_newq (N' := 5) (t := 4) E rfl (by decide +kernel) kc_X2_31 (by decide) rfl (Nat.le_of_ble_eq_true rfl) ⟨Nat.le_of_ble_eq_true rfl, Nat.le_of_ble_eq_true rfl⟩ dX2_init_41 (fun a4 ad9 ct9 f0 f1 f2 f3 => ?_)
  have hA4 : ad9 (k0 + 4) = a4 := f0
  have hC4 : ct9 (k0 + 4) = .inl (tc 4, 5, .inr (.inr (.inr (.inr (fun _ => none))))) := f2
  have hA0 := (f1 _ (by omega)).trans hA0
  have hA1 := (f1 _ (by omega)).trans hA1
  have hA2 := (f1 _ (by omega)).trans hA2
  have hA3 := (f1 _ (by omega)).trans hA3
  have hku : ∀ i, i ≤ k0 ∨ 1000 ≤ i → ad9 i = ad0 i := fun i hi => (f1 i (by omega)).trans (hku i hi)
  have hC0 := (f3 _ (by omega)).trans hC0
  have hC1 := (f3 _ (by omega)).trans hC1
  have hC2 := (f3 _ (by omega)).trans hC2
  have hC3 := (f3 _ (by omega)).trans hC3
  have hfr : ∀ i, i < k0 → ct9 i = ct0 i := fun i hi => (f3 i (by omega)).trans (hfr i hi)
  refine rc_putF (k := k0) E (C := RX2) (T := TX2) (N := 14) (j := 5) (fs := [.int (3 : Int32), .ref a1, .ref a2, .ref a3, .int (0 : Int32), .null, .int 0, .null, .int 0, .int 0, .int 0, .int 0, .int 0, .int 0]) (ci := 1) (by omega) hA0 hC0 rfl iT_2 tyX2 tyX2_ok nmX2 (by decide) fl_X2_33 rfl rfl rfl (tyX2_ok 5 (by decide)) rfl rfl (Nat.le_of_ble_eq_true rfl) dX2_init_44 (fun ct10 f1 f2 => ?_)
  have hC0 : ct10 k0 = .inr (1, [.int (3 : Int32), .ref a1, .ref a2, .ref a3, .int (0 : Int32), .ref a4, .int 0, .null, .int 0, .int 0, .int 0, .int 0, .int 0, .int 0]) := f1
  have hC1 := (f2 _ (by omega)).trans hC1
  have hC2 := (f2 _ (by omega)).trans hC2
  have hC3 := (f2 _ (by omega)).trans hC3
  have hC4 := (f2 _ (by omega)).trans hC4
  have hfr : ∀ i, i < k0 → ct10 i = ct0 i := fun i hi => (f2 i (by omega)).trans (hfr i hi)
  refine rc_aload_n E dX2_init_47 rfl 0 rfl ?_
  refine rc_iconst E dX2_init_48 ki_0 ?_
  refine rc_put (k := k0) E (C := RX2) (T := TX2) (N := 14) (j := 6) (fs := [.int (3 : Int32), .ref a1, .ref a2, .ref a3, .int (0 : Int32), .ref a4, .int 0, .null, .int 0, .int 0, .int 0, .int 0, .int 0, .int 0]) (ci := 1) (by omega) hA0 hC0 rfl iT_2 tyX2 tyX2_ok nmX2 (by decide) fl_X2_37 rfl rfl (tyX2_ok 6 (by decide)) rfl rfl (Nat.le_of_ble_eq_true rfl) dX2_init_49 (fun ct11 f1 f2 => ?_)
  have hC0 : ct11 k0 = .inr (1, [.int (3 : Int32), .ref a1, .ref a2, .ref a3, .int (0 : Int32), .ref a4, .int (0 : Int32), .null, .int 0, .int 0, .int 0, .int 0, .int 0, .int 0]) := f1
  have hC1 := (f2 _ (by omega)).trans hC1
  have hC2 := (f2 _ (by omega)).trans hC2
  have hC3 := (f2 _ (by omega)).trans hC3
  have hC4 := (f2 _ (by omega)).trans hC4
  have hfr : ∀ i, i < k0 → ct11 i = ct0 i := fun i hi => (f2 i (by omega)).trans (hfr i hi)
  refine rc_aload_n E dX2_init_52 rfl 0 rfl ?_
  refine rc_bipush E dX2_init_53 kb_30 ?_
  refine rc_newq (N' := 30) (t := 5) E rfl (by decide +kernel) kc_X2_40 (by decide) rfl (Nat.le_of_ble_eq_true rfl) ⟨Nat.le_of_ble_eq_true rfl, Nat.le_of_ble_eq_true rfl⟩ dX2_init_55 (fun a5 ad12 ct12 f0 f1 f2 f3 => ?_)
  have hA5 : ad12 (k0 + 5) = a5 := f0
  have hC5 : ct12 (k0 + 5) = .inl (tc 5, 30, .inr (.inr (.inr (.inr (fun _ => none))))) := f2
  have hA0 := (f1 _ (by omega)).trans hA0
  have hA1 := (f1 _ (by omega)).trans hA1
  have hA2 := (f1 _ (by omega)).trans hA2
  have hA3 := (f1 _ (by omega)).trans hA3
  have hA4 := (f1 _ (by omega)).trans hA4
  have hku : ∀ i, i ≤ k0 ∨ 1000 ≤ i → ad12 i = ad0 i := fun i hi => (f1 i (by omega)).trans (hku i hi)
  have hC0 := (f3 _ (by omega)).trans hC0
  have hC1 := (f3 _ (by omega)).trans hC1
  have hC2 := (f3 _ (by omega)).trans hC2
  have hC3 := (f3 _ (by omega)).trans hC3
  have hC4 := (f3 _ (by omega)).trans hC4
  have hfr : ∀ i, i < k0 → ct12 i = ct0 i := fun i hi => (f3 i (by omega)).trans (hfr i hi)
  refine rc_putF (k := k0) E (C := RX2) (T := TX2) (N := 14) (j := 7) (fs := [.int (3 : Int32), .ref a1, .ref a2, .ref a3, .int (0 : Int32), .ref a4, .int (0 : Int32), .null, .int 0, .int 0, .int 0, .int 0, .int 0, .int 0]) (ci := 1) (by omega) hA0 hC0 rfl iT_2 tyX2 tyX2_ok nmX2 (by decide) fl_X2_42 rfl rfl rfl (tyX2_ok 7 (by decide)) rfl rfl (Nat.le_of_ble_eq_true rfl) dX2_init_58 (fun ct13 f1 f2 => ?_)
  have hC0 : ct13 k0 = .inr (1, [.int (3 : Int32), .ref a1, .ref a2, .ref a3, .int (0 : Int32), .ref a4, .int (0 : Int32), .ref a5, .int 0, .int 0, .int 0, .int 0, .int 0, .int 0]) := f1
  have hC1 := (f2 _ (by omega)).trans hC1
  have hC2 := (f2 _ (by omega)).trans hC2
  have hC3 := (f2 _ (by omega)).trans hC3
  have hC4 := (f2 _ (by omega)).trans hC4
  have hC5 := (f2 _ (by omega)).trans hC5
  have hfr : ∀ i, i < k0 → ct13 i = ct0 i := fun i hi => (f2 i (by omega)).trans (hfr i hi)
  refine rc_aload_n E dX2_init_61 rfl 0 rfl ?_
  refine rc_iconst E dX2_init_62 ki_0 ?_
  refine rc_put (k := k0) E (C := RX2) (T := TX2) (N := 14) (j := 8) (fs := [.int (3 : Int32), .ref a1, .ref a2, .ref a3, .int (0 : Int32), .ref a4, .int (0 : Int32), .ref a5, .int 0, .int 0, .int 0, .int 0, .int 0, .int 0]) (ci := 1) (by omega) hA0 hC0 rfl iT_2 tyX2 tyX2_ok nmX2 (by decide) fl_X2_46 rfl rfl (tyX2_ok 8 (by decide)) rfl rfl (Nat.le_of_ble_eq_true rfl) dX2_init_63 (fun ct14 f1 f2 => ?_)
  have hC0 : ct14 k0 = .inr (1, [.int (3 : Int32), .ref a1, .ref a2, .ref a3, .int (0 : Int32), .ref a4, .int (0 : Int32), .ref a5, .int (0 : Int32), .int 0, .int 0, .int 0, .int 0, .int 0]) := f1
  have hC1 := (f2 _ (by omega)).trans hC1
  have hC2 := (f2 _ (by omega)).trans hC2
  have hC3 := (f2 _ (by omega)).trans hC3
  have hC4 := (f2 _ (by omega)).trans hC4
  have hC5 := (f2 _ (by omega)).trans hC5
  have hfr : ∀ i, i < k0 → ct14 i = ct0 i := fun i hi => (f2 i (by omega)).trans (hfr i hi)
  refine rc_aload_n E dX2_init_66 rfl 0 rfl ?_
  refine rc_iconst E dX2_init_67 ki_0 ?_
  refine rc_put (k := k0) E (C := RX2) (T := TX2) (N := 14) (j := 9) (fs := [.int (3 : Int32), .ref a1, .ref a2, .ref a3, .int (0 : Int32), .ref a4, .int (0 : Int32), .ref a5, .int (0 : Int32), .int 0, .int 0, .int 0, .int 0, .int 0]) (ci := 1) (by omega) hA0 hC0 rfl iT_2 tyX2 tyX2_ok nmX2 (by decide) fl_X2_49 rfl rfl (tyX2_ok 9 (by decide)) rfl rfl (Nat.le_of_ble_eq_true rfl) dX2_init_68 (fun ct15 f1 f2 => ?_)
  have hC0 : ct15 k0 = .inr (1, [.int (3 : Int32), .ref a1, .ref a2, .ref a3, .int (0 : Int32), .ref a4, .int (0 : Int32), .ref a5, .int (0 : Int32), .int (0 : Int32), .int 0, .int 0, .int 0, .int 0]) := f1
  have hC1 := (f2 _ (by omega)).trans hC1
  have hC2 := (f2 _ (by omega)).trans hC2
  have hC3 := (f2 _ (by omega)).trans hC3
  have hC4 := (f2 _ (by omega)).trans hC4
  have hC5 := (f2 _ (by omega)).trans hC5
  have hfr : ∀ i, i < k0 → ct15 i = ct0 i := fun i hi => (f2 i (by omega)).trans (hfr i hi)
  refine rc_aload_n E dX2_init_71 rfl 0 rfl ?_
  refine rc_iconst E dX2_init_72 ki_0 ?_
  refine rc_put (k := k0) E (C := RX2) (T := TX2) (N := 14) (j := 10) (fs := [.int (3 : Int32), .ref a1, .ref a2, .ref a3, .int (0 : Int32), .ref a4, .int (0 : Int32), .ref a5, .int (0 : Int32), .int (0 : Int32), .int 0, .int 0, .int 0, .int 0]) (ci := 1) (by omega) hA0 hC0 rfl iT_2 tyX2 tyX2_ok nmX2 (by decide) fl_X2_52 rfl rfl (tyX2_ok 10 (by decide)) rfl rfl (Nat.le_of_ble_eq_true rfl) dX2_init_73 (fun ct16 f1 f2 => ?_)
  have hC0 : ct16 k0 = .inr (1, [.int (3 : Int32), .ref a1, .ref a2, .ref a3, .int (0 : Int32), .ref a4, .int (0 : Int32), .ref a5, .int (0 : Int32), .int (0 : Int32), .int (0 : Int32), .int 0, .int 0, .int 0]) := f1
  have hC1 := (f2 _ (by omega)).trans hC1
  have hC2 := (f2 _ (by omega)).trans hC2
  have hC3 := (f2 _ (by omega)).trans hC3
  have hC4 := (f2 _ (by omega)).trans hC4
  have hC5 := (f2 _ (by omega)).trans hC5
  have hfr : ∀ i, i < k0 → ct16 i = ct0 i := fun i hi => (f2 i (by omega)).trans (hfr i hi)
  refine rc_aload_n E dX2_init_76 rfl 0 rfl ?_
  refine rc_iconst E dX2_init_77 ki_0 ?_
  refine rc_put (k := k0) E (C := RX2) (T := TX2) (N := 14) (j := 11) (fs := [.int (3 : Int32), .ref a1, .ref a2, .ref a3, .int (0 : Int32), .ref a4, .int (0 : Int32), .ref a5, .int (0 : Int32), .int (0 : Int32), .int (0 : Int32), .int 0, .int 0, .int 0]) (ci := 1) (by omega) hA0 hC0 rfl iT_2 tyX2 tyX2_ok nmX2 (by decide) fl_X2_55 rfl rfl (tyX2_ok 11 (by decide)) rfl rfl (Nat.le_of_ble_eq_true rfl) dX2_init_78 (fun ct17 f1 f2 => ?_)
  have hC0 : ct17 k0 = .inr (1, [.int (3 : Int32), .ref a1, .ref a2, .ref a3, .int (0 : Int32), .ref a4, .int (0 : Int32), .ref a5, .int (0 : Int32), .int (0 : Int32), .int (0 : Int32), .int (0 : Int32), .int 0, .int 0]) := f1
  have hC1 := (f2 _ (by omega)).trans hC1
  have hC2 := (f2 _ (by omega)).trans hC2
  have hC3 := (f2 _ (by omega)).trans hC3
  have hC4 := (f2 _ (by omega)).trans hC4
  have hC5 := (f2 _ (by omega)).trans hC5
  have hfr : ∀ i, i < k0 → ct17 i = ct0 i := fun i hi => (f2 i (by omega)).trans (hfr i hi)
  refine rc_aload_n E dX2_init_81 rfl 0 rfl ?_
  refine rc_iconst E dX2_init_82 ki_0 ?_
  refine rc_put (k := k0) E (C := RX2) (T := TX2) (N := 14) (j := 12) (fs := [.int (3 : Int32), .ref a1, .ref a2, .ref a3, .int (0 : Int32), .ref a4, .int (0 : Int32), .ref a5, .int (0 : Int32), .int (0 : Int32), .int (0 : Int32), .int (0 : Int32), .int 0, .int 0]) (ci := 1) (by omega) hA0 hC0 rfl iT_2 tyX2 tyX2_ok nmX2 (by decide) fl_X2_58 rfl rfl (tyX2_ok 12 (by decide)) rfl rfl (Nat.le_of_ble_eq_true rfl) dX2_init_83 (fun ct18 f1 f2 => ?_)
  have hC0 : ct18 k0 = .inr (1, [.int (3 : Int32), .ref a1, .ref a2, .ref a3, .int (0 : Int32), .ref a4, .int (0 : Int32), .ref a5, .int (0 : Int32), .int (0 : Int32), .int (0 : Int32), .int (0 : Int32), .int (0 : Int32), .int 0]) := f1
  have hC1 := (f2 _ (by omega)).trans hC1
  have hC2 := (f2 _ (by omega)).trans hC2
  have hC3 := (f2 _ (by omega)).trans hC3
  have hC4 := (f2 _ (by omega)).trans hC4
  have hC5 := (f2 _ (by omega)).trans hC5
  have hfr : ∀ i, i < k0 → ct18 i = ct0 i := fun i hi => (f2 i (by omega)).trans (hfr i hi)
  refine rc_aload_n E dX2_init_86 rfl 0 rfl ?_
  refine rc_iconst E dX2_init_87 ki_0 ?_
  refine rc_put (k := k0) E (C := RX2) (T := TX2) (N := 14) (j := 13) (fs := [.int (3 : Int32), .ref a1, .ref a2, .ref a3, .int (0 : Int32), .ref a4, .int (0 : Int32), .ref a5, .int (0 : Int32), .int (0 : Int32), .int (0 : Int32), .int (0 : Int32), .int (0 : Int32), .int 0]) (ci := 1) (by omega) hA0 hC0 rfl iT_2 tyX2 tyX2_ok nmX2 (by decide) fl_X2_61 rfl rfl (tyX2_ok 13 (by decide)) rfl rfl (Nat.le_of_ble_eq_true rfl) dX2_init_88 (fun ct19 f1 f2 => ?_)
  have hC0 : ct19 k0 = .inr (1, [.int (3 : Int32), .ref a1, .ref a2, .ref a3, .int (0 : Int32), .ref a4, .int (0 : Int32), .ref a5, .int (0 : Int32), .int (0 : Int32), .int (0 : Int32), .int (0 : Int32), .int (0 : Int32), .int (0 : Int32)]) := f1
  have hC1 := (f2 _ (by omega)).trans hC1
  have hC2 := (f2 _ (by omega)).trans hC2
  have hC3 := (f2 _ (by omega)).trans hC3
  have hC4 := (f2 _ (by omega)).trans hC4
  have hC5 := (f2 _ (by omega)).trans hC5
  have hfr : ∀ i, i < k0 → ct19 i = ct0 i := fun i hi => (f2 i (by omega)).trans (hfr i hi)
  refine rc_iconst E dX2_init_91 ki_0 ?_
  refine rc_istore_n (L' := [(1, _), (0, _)]) E dX2_init_92 rfl (by decide) rfl ?_
  refine rc_loop E true (host := "NoodleCanal") (N := 15) (k0 := k0) (ka := k0 + 1) (nb := k0 + 6) (jF := 1) (t := 3) (ci := 6) (fv := [.int 0, .int 0, .int 0]) (fsT := [.int (3 : Int32), .ref a1, .ref a2, .ref a3, .int (0 : Int32), .ref a4, .int (0 : Int32), .ref a5, .int (0 : Int32), .int (0 : Int32), .int (0 : Int32), .int (0 : Int32), .int (0 : Int32), .int (0 : Int32)]) (cT := 1) (cells0 := 5) (slots0 := 82) (adB := ad12) (ctB := ct19) dX2_init_93 dX2_init_94 dX2_init_95 dX2_init_98 dX2_init_99 dX2_init_102 dX2_init_103 dX2_init_106 dX2_init_107 dX2_init_110 dX2_init_111 dX2_init_114 dX2_init_115 dX2_init_118 c_X9_init (by intro ad ad' b r hr h; exact FX9_congr tc ad ad' b r hr (fun k hk => h k (by omega))) (fun _ _ => ⟨_, rfl⟩) cd_X9_init cn_X9_init (Or.inr (E.2.2.2.2.2.2.2.1.2.2.2 ("NoodleCanal$Canal", 64, ⟨"NoodleCanal$Section", "<init>", "()V"⟩) (by decide +kernel))) (by decide) (C := RX9) rfl iT_2 (by decide) fl_X2_17 rfl rfl rfl iT_9 tyX9 tyX9_ok (fun j hj => by rcases (show j = 0 ∨ j = 1 ∨ j = 2 by omega) with rfl | rfl | rfl <;> rfl) kc_X2_15 ki_X9 kn_X9 rfl (by decide) rfl (by decide) (by omega) (by omega) (by omega) (by omega) hA0 hA1 hC0 (fun i hi => hku i (Or.inr hi)) ⟨Nat.le_of_ble_eq_true rfl, Nat.le_of_ble_eq_true rfl⟩ ⟨Nat.le_of_ble_eq_true rfl, Nat.le_of_ble_eq_true rfl⟩ (fun adP ctP g1 g2 g3 g4 => ?_) 15 0 (by omega) ad12 ct19 (fun _ _ => rfl) (fun _ _ _ => rfl) ⟨_, hC1, fun j hj => absurd hj (by omega)⟩ (fun j hj => absurd hj (by omega))
  have hku : ∀ i, i ≤ k0 ∨ 1000 ≤ i → adP i = ad0 i := fun i hi => (g1 i (by omega)).trans (hku i hi)
  have hfr : ∀ i, i < k0 → ctP i = ct0 i := fun i hi => (g2 i (by omega) (by omega)).trans (hfr i hi)
  have hA0 := (g1 k0 (by omega)).trans hA0
  have hA1 := (g1 (k0 + 1) (by omega)).trans hA1
  have hA2 := (g1 (k0 + 2) (by omega)).trans hA2
  have hA3 := (g1 (k0 + 3) (by omega)).trans hA3
  have hA4 := (g1 (k0 + 4) (by omega)).trans hA4
  have hA5 := (g1 (k0 + 5) (by omega)).trans hA5
  have hC0 := (g2 k0 (by omega) (by omega)).trans hC0
  have hC2 := (g2 (k0 + 2) (by omega) (by omega)).trans hC2
  have hC3 := (g2 (k0 + 3) (by omega) (by omega)).trans hC3
  have hC4 := (g2 (k0 + 4) (by omega) (by omega)).trans hC4
  have hC5 := (g2 (k0 + 5) (by omega) (by omega)).trans hC5
  have hC1 : ctP (k0 + 1) = .inl (tc 3, 15, .inr (.inr (.inr (.inr (tr 15 (fun j => adP (k0 + 6 + (0 + 1) * j))))))) := g3
  have hS : ∀ j, j < 15 → ctP (k0 + 6 + j) = eSection rS := fun j hj => by have q := g4 j hj 0 (Nat.le_refl _); rw [show k0 + 6 + (0 + 1) * j + 0 = k0 + 6 + j by omega] at q; exact q
  have hn1 : k0 + 6 + (0 + 1) * 15 = k0 + 21 := by omega
  rw [hn1]
  clear g3 g4
  refine rc_iconst E dX2_init_121 ki_0 ?_
  refine rc_istore_n (L' := [(1, _), (0, _)]) E dX2_init_122 rfl (by decide) rfl ?_
  refine rc_loop E true (host := "NoodleCanal") (N := 5) (k0 := k0) (ka := k0 + 4) (nb := k0 + 21) (jF := 5) (t := 4) (ci := 0) (fv := [.int 0, .int 0, .int 0, .int 0, .int 0, .int 0, .int 0, .null, .int 0]) (fsT := [.int (3 : Int32), .ref a1, .ref a2, .ref a3, .int (0 : Int32), .ref a4, .int (0 : Int32), .ref a5, .int (0 : Int32), .int (0 : Int32), .int (0 : Int32), .int (0 : Int32), .int (0 : Int32), .int (0 : Int32)]) (cT := 1) (cells0 := 20) (slots0 := 127) (adB := adP) (ctB := ctP) dX2_init_123 dX2_init_124 dX2_init_125 dX2_init_128 dX2_init_129 dX2_init_132 dX2_init_133 dX2_init_136 dX2_init_137 dX2_init_140 dX2_init_141 dX2_init_144 dX2_init_145 dX2_init_148 c_X1_init (by intro ad ad' b r hr h; exact FX1_congr tc ad ad' b r hr (fun k hk => h k (by omega))) (fun _ _ => ⟨_, rfl⟩) cd_X1_init cn_X1_init (Or.inr (E.2.2.2.2.2.2.2.1.2.2.2 ("NoodleCanal$Canal", 65, ⟨"NoodleCanal$Barge", "<init>", "()V"⟩) (by decide +kernel))) (by decide) (C := RX1) rfl iT_2 (by decide) fl_X2_33 rfl rfl rfl iT_1 tyX1 tyX1_ok (fun j hj => by rcases (show j = 0 ∨ j = 1 ∨ j = 2 ∨ j = 3 ∨ j = 4 ∨ j = 5 ∨ j = 6 ∨ j = 7 ∨ j = 8 by omega) with rfl | rfl | rfl | rfl | rfl | rfl | rfl | rfl | rfl <;> rfl) kc_X2_31 ki_X1 kn_X1 rfl (by decide) rfl (by decide) (by omega) (by omega) (by omega) (by omega) hA0 hA4 hC0 (fun i hi => hku i (Or.inr hi)) ⟨Nat.le_of_ble_eq_true rfl, Nat.le_of_ble_eq_true rfl⟩ ⟨Nat.le_of_ble_eq_true rfl, Nat.le_of_ble_eq_true rfl⟩ (fun adQ ctQ g1 g2 g3 g4 => ?_) 5 0 (by omega) adP ctP (fun _ _ => rfl) (fun _ _ _ => rfl) ⟨_, hC4, fun j hj => absurd hj (by omega)⟩ (fun j hj => absurd hj (by omega))
  have hAS : ∀ j, j < 15 → adQ (k0 + 6 + j) = adP (k0 + 6 + j) := fun j hj => g1 _ (by omega)
  have hS : ∀ j, j < 15 → ctQ (k0 + 6 + j) = eSection rS := fun j hj => (g2 _ (by omega) (by omega)).trans (hS j hj)
  have hku : ∀ i, i ≤ k0 ∨ 1000 ≤ i → adQ i = ad0 i := fun i hi => (g1 i (by omega)).trans (hku i hi)
  have hfr : ∀ i, i < k0 → ctQ i = ct0 i := fun i hi => (g2 i (by omega) (by omega)).trans (hfr i hi)
  have hA0 := (g1 k0 (by omega)).trans hA0
  have hA1 := (g1 (k0 + 1) (by omega)).trans hA1
  have hA2 := (g1 (k0 + 2) (by omega)).trans hA2
  have hA3 := (g1 (k0 + 3) (by omega)).trans hA3
  have hA4 := (g1 (k0 + 4) (by omega)).trans hA4
  have hA5 := (g1 (k0 + 5) (by omega)).trans hA5
  have hC0 := (g2 k0 (by omega) (by omega)).trans hC0
  have hC1 := (g2 (k0 + 1) (by omega) (by omega)).trans hC1
  have hC2 := (g2 (k0 + 2) (by omega) (by omega)).trans hC2
  have hC3 := (g2 (k0 + 3) (by omega) (by omega)).trans hC3
  have hC5 := (g2 (k0 + 5) (by omega) (by omega)).trans hC5
  have hC4 : ctQ (k0 + 4) = .inl (tc 4, 5, .inr (.inr (.inr (.inr (tr 5 (fun j => adQ (k0 + 21 + (1 + 1) * j))))))) := g3
  have hB : ∀ j, j < 5 → ctQ (k0 + 21 + 2 * j) = eBarge adQ (k0 + 21 + 2 * j) r0 := fun j hj => g4 j hj 0 (by omega)
  have hQ : ∀ j, j < 5 → ctQ (k0 + 22 + 2 * j) = ari (tc 1) 4 r0 := fun j hj => by have q := g4 j hj 1 (by omega); rw [show k0 + 21 + (1 + 1) * j + 1 = k0 + 22 + 2 * j by omega] at q; exact q
  have hn2 : k0 + 21 + (1 + 1) * 5 = k0 + 31 := by omega
  rw [hn2]
  clear g3 g4
  refine rc_iconst E dX2_init_151 ki_0 ?_
  refine rc_istore_n (L' := [(1, _), (0, _)]) E dX2_init_152 rfl (by decide) rfl ?_
  refine rc_loop E true (host := "NoodleCanal") (N := 30) (k0 := k0) (ka := k0 + 5) (nb := k0 + 31) (jF := 7) (t := 5) (ci := 4) (fv := [.int 0, .int 0, .int 0, .int 0, .int 0, .int 0, .null, .int 0]) (fsT := [.int (3 : Int32), .ref a1, .ref a2, .ref a3, .int (0 : Int32), .ref a4, .int (0 : Int32), .ref a5, .int (0 : Int32), .int (0 : Int32), .int (0 : Int32), .int (0 : Int32), .int (0 : Int32), .int (0 : Int32)]) (cT := 1) (cells0 := 30) (slots0 := 192) (adB := adQ) (ctB := ctQ) dX2_init_153 dX2_init_154 dX2_init_155 dX2_init_158 dX2_init_159 dX2_init_162 dX2_init_163 dX2_init_166 dX2_init_167 dX2_init_170 dX2_init_171 dX2_init_174 dX2_init_175 dX2_init_178 c_X6_init (by intro ad ad' b r hr h; exact FX6_congr tc ad ad' b r hr (fun k hk => h k (by omega))) (fun _ _ => ⟨_, rfl⟩) cd_X6_init cn_X6_init (Or.inr (E.2.2.2.2.2.2.2.1.2.2.2 ("NoodleCanal$Canal", 66, ⟨"NoodleCanal$Order", "<init>", "()V"⟩) (by decide +kernel))) (by decide) (C := RX6) rfl iT_2 (by decide) fl_X2_42 rfl rfl rfl iT_6 tyX6 tyX6_ok (fun j hj => by rcases (show j = 0 ∨ j = 1 ∨ j = 2 ∨ j = 3 ∨ j = 4 ∨ j = 5 ∨ j = 6 ∨ j = 7 by omega) with rfl | rfl | rfl | rfl | rfl | rfl | rfl | rfl <;> rfl) kc_X2_40 ki_X6 kn_X6 rfl (by decide) rfl (by decide) (by omega) (by omega) (by omega) (by omega) hA0 hA5 hC0 (fun i hi => hku i (Or.inr hi)) ⟨Nat.le_of_ble_eq_true rfl, Nat.le_of_ble_eq_true rfl⟩ ⟨Nat.le_of_ble_eq_true rfl, Nat.le_of_ble_eq_true rfl⟩ (fun adR ctR g1 g2 g3 g4 => ?_) 30 0 (by omega) adQ ctQ (fun _ _ => rfl) (fun _ _ _ => rfl) ⟨_, hC5, fun j hj => absurd hj (by omega)⟩ (fun j hj => absurd hj (by omega))
  have hAS2 : ∀ j, j < 15 → adR (k0 + 6 + j) = adP (k0 + 6 + j) := fun j hj => (g1 _ (by omega)).trans (hAS j hj)
  have hS : ∀ j, j < 15 → ctR (k0 + 6 + j) = eSection rS := fun j hj => (g2 _ (by omega) (by omega)).trans (hS j hj)
  have hAB : ∀ j, j < 11 → adR (k0 + 21 + j) = adQ (k0 + 21 + j) ∨ j = 10 := fun j hj => (Nat.lt_or_ge j 10).imp (fun q => g1 _ (by omega)) (fun q => by omega)
  have hB : ∀ j, j < 5 → ctR (k0 + 21 + 2 * j) = eBarge adR (k0 + 21 + 2 * j) r0 := fun j hj => (g2 _ (by omega) (by omega)).trans ((hB j hj).trans (by unfold eBarge; rw [g1 (k0 + 21 + 2 * j + 1) (by omega)]))
  have hQ : ∀ j, j < 5 → ctR (k0 + 22 + 2 * j) = ari (tc 1) 4 r0 := fun j hj => (g2 _ (by omega) (by omega)).trans (hQ j hj)
  have hku : ∀ i, i ≤ k0 ∨ 1000 ≤ i → adR i = ad0 i := fun i hi => (g1 i (by omega)).trans (hku i hi)
  have hfr : ∀ i, i < k0 → ctR i = ct0 i := fun i hi => (g2 i (by omega) (by omega)).trans (hfr i hi)
  have hA0 := (g1 k0 (by omega)).trans hA0
  have hA1 := (g1 (k0 + 1) (by omega)).trans hA1
  have hA2 := (g1 (k0 + 2) (by omega)).trans hA2
  have hA3 := (g1 (k0 + 3) (by omega)).trans hA3
  have hA4 := (g1 (k0 + 4) (by omega)).trans hA4
  have hA5 := (g1 (k0 + 5) (by omega)).trans hA5
  have hC0 := (g2 k0 (by omega) (by omega)).trans hC0
  have hC1 := (g2 (k0 + 1) (by omega) (by omega)).trans hC1
  have hC2 := (g2 (k0 + 2) (by omega) (by omega)).trans hC2
  have hC3 := (g2 (k0 + 3) (by omega) (by omega)).trans hC3
  have hC4 := (g2 (k0 + 4) (by omega) (by omega)).trans hC4
  have hC5 : ctR (k0 + 5) = .inl (tc 5, 30, .inr (.inr (.inr (.inr (tr 30 (fun j => adR (k0 + 31 + (0 + 1) * j))))))) := g3
  have hO : ∀ j, j < 30 → ctR (k0 + 31 + j) = eOrder adR rO := fun j hj => by have q := g4 j hj 0 (by omega); rw [show k0 + 31 + (0 + 1) * j + 0 = k0 + 31 + j by omega] at q; exact q
  have hn3 : k0 + 31 + (0 + 1) * 30 = k0 + 1 + 60 := by omega
  rw [hn3]
  refine rc_vret (k0 := k0) (x := 60) (ct0 := ct0) (F := FX2) E hr rfl hku hfr (fun r hr9 => ?_) ⟨Nat.le_of_ble_eq_true rfl, Nat.le_of_ble_eq_true rfl⟩ dX2_init_181
  unfold FX2
  by_cases c1 : r = 1
  · subst c1
    rw [if_pos rfl, hC1, tr_congr (fun j hj => (show adP (k0 + 6 + (0 + 1) * j) = adR (k0 + 6 + j) by rw [hAS2 j hj, show k0 + 6 + (0 + 1) * j = k0 + 6 + j by omega]))]
  rw [if_neg c1]
  by_cases c4 : r = 4
  · subst c4
    rw [if_pos rfl, hC4, tr_congr (fun j hj => (show adQ (k0 + 21 + (1 + 1) * j) = adR (k0 + 21 + 2 * j) from (g1 _ (by omega)).symm))]
  rw [if_neg c4]
  by_cases c5 : r = 5
  · subst c5
    rw [if_pos rfl, hC5, tr_congr (fun j hj => (show adR (k0 + 31 + (0 + 1) * j) = adR (k0 + 31 + j) by rw [show k0 + 31 + (0 + 1) * j = k0 + 31 + j by omega]))]
  rw [if_neg c5]
  unfold celC
  by_cases c0 : r = 0
  · subst c0
    rw [if_pos rfl, show k0 + 0 = k0 from rfl, hC0, ← hA1, ← hA2, ← hA3, ← hA4, ← hA5]
    rfl
  rw [if_neg c0, if_neg c1]
  by_cases c2 : r = 2
  · subst c2
    rw [if_pos rfl]; exact hC2
  rw [if_neg c2]
  by_cases c3 : r = 3
  · subst c3
    rw [if_pos rfl]; exact hC3
  rw [if_neg c3, if_neg c4, if_neg c5]
  by_cases c6 : r < 21
  · have e : mC r = rS := by unfold mC; rw [if_neg c0, if_pos ⟨by omega, c6⟩]
    rw [if_pos c6, e]
    have q := hS (r - 6) (by omega)
    rw [show k0 + 6 + (r - 6) = k0 + r by omega] at q
    exact q
  rw [if_neg c6]
  by_cases c7 : r < 31
  · have e : mC r = r0 := by unfold mC; rw [if_neg c0, if_neg (fun q => c6 q.2), if_neg (by omega)]
    rw [if_pos c7, e]
    by_cases c8 : r % 2 = 1
    · rw [if_pos c8]
      have q := hB ((r - 21) / 2) (by omega)
      rw [show k0 + 21 + 2 * ((r - 21) / 2) = k0 + r by omega] at q
      exact q
    · rw [if_neg c8]
      have q := hQ ((r - 21) / 2) (by omega)
      rw [show k0 + 22 + 2 * ((r - 21) / 2) = k0 + r by omega] at q
      exact q
  have e : mC r = rO := by unfold mC; rw [if_neg c0, if_neg (fun q => c6 q.2), if_pos (by omega)]
  rw [if_neg c7, e]
  have q := hO (r - 31) (by omega)
  rw [show k0 + 31 + (r - 31) = k0 + r by omega] at q
  exact q
set_option maxRecDepth 100000 in
set_option maxHeartbeats 4000000 in
theorem c_X8_init : MC yX8_init cX8_init 2 2 21 140 21 (.inr (5, [.null, .int 0, .int 0])) FX8 := by
  refine MC_of RX8 rfl (by decide +kernel) rfl (Nat.le_of_ble_eq_true rfl) (fun p l e s m below meth c D tc A ad0 ct0 k0 hfr0 hb E hr => ?_)
  have hA0 : ad0 k0 = ad0 k0 := rfl
  have hC0 := hfr0
  have hku : ∀ i, i ≤ k0 ∨ 1000 ≤ i → ad0 i = ad0 i := fun _ _ => rfl
  have hfr : ∀ i, i < k0 → ct0 i = ct0 i := fun _ _ => rfl
  refine rc_aload_n E dX8_init_0 rfl 0 rfl ?_
  refine rc_obj E mo_X8_3 ⟨Nat.le_of_ble_eq_true rfl, Nat.le_of_ble_eq_true rfl⟩ dX8_init_1 ?_
  refine rc_aload_n E dX8_init_4 rfl 0 rfl ?_
  refine rc_bipush E dX8_init_5 kb_20 ?_
  refine rc_newq (N' := 20) (t := 7) E rfl (by decide +kernel) kc_X8_9 (by decide) rfl (Nat.le_of_ble_eq_true rfl) ⟨Nat.le_of_ble_eq_true rfl, Nat.le_of_ble_eq_true rfl⟩ dX8_init_7 (fun a1 ad1 ct1 f0 f1 f2 f3 => ?_)
  have hA1 : ad1 (k0 + 1) = a1 := f0
  have hC1 : ct1 (k0 + 1) = .inl (tc 7, 20, .inr (.inr (.inr (.inr (fun _ => none))))) := f2
  have hA0 := (f1 _ (by omega)).trans hA0
  have hku : ∀ i, i ≤ k0 ∨ 1000 ≤ i → ad1 i = ad0 i := fun i hi => (f1 i (by omega)).trans (hku i hi)
  have hC0 := (f3 _ (by omega)).trans hC0
  have hfr : ∀ i, i < k0 → ct1 i = ct0 i := fun i hi => (f3 i (by omega)).trans (hfr i hi)
  refine rc_putF (k := k0) E (C := RX8) (T := TX8) (N := 3) (j := 0) (fs := [.null, .int 0, .int 0]) (ci := 5) (by omega) hA0 hC0 rfl iT_8 tyX8 tyX8_ok nmX8 (by decide) fl_X8_11 rfl rfl rfl (tyX8_ok 0 (by decide)) rfl rfl (Nat.le_of_ble_eq_true rfl) dX8_init_10 (fun ct2 f1 f2 => ?_)
  have hC0 : ct2 k0 = .inr (5, [.ref a1, .int 0, .int 0]) := f1
  have hC1 := (f2 _ (by omega)).trans hC1
  have hfr : ∀ i, i < k0 → ct2 i = ct0 i := fun i hi => (f2 i (by omega)).trans (hfr i hi)
  refine rc_aload_n E dX8_init_13 rfl 0 rfl ?_
  refine rc_iconst E dX8_init_14 ki_0 ?_
  refine rc_put (k := k0) E (C := RX8) (T := TX8) (N := 3) (j := 1) (fs := [.ref a1, .int 0, .int 0]) (ci := 5) (by omega) hA0 hC0 rfl iT_8 tyX8 tyX8_ok nmX8 (by decide) fl_X8_17 rfl rfl (tyX8_ok 1 (by decide)) rfl rfl (Nat.le_of_ble_eq_true rfl) dX8_init_15 (fun ct3 f1 f2 => ?_)
  have hC0 : ct3 k0 = .inr (5, [.ref a1, .int (0 : Int32), .int 0]) := f1
  have hC1 := (f2 _ (by omega)).trans hC1
  have hfr : ∀ i, i < k0 → ct3 i = ct0 i := fun i hi => (f2 i (by omega)).trans (hfr i hi)
  refine rc_aload_n E dX8_init_18 rfl 0 rfl ?_
  refine rc_iconst E dX8_init_19 ki_0 ?_
  refine rc_put (k := k0) E (C := RX8) (T := TX8) (N := 3) (j := 2) (fs := [.ref a1, .int (0 : Int32), .int 0]) (ci := 5) (by omega) hA0 hC0 rfl iT_8 tyX8 tyX8_ok nmX8 (by decide) fl_X8_21 rfl rfl (tyX8_ok 2 (by decide)) rfl rfl (Nat.le_of_ble_eq_true rfl) dX8_init_20 (fun ct4 f1 f2 => ?_)
  have hC0 : ct4 k0 = .inr (5, [.ref a1, .int (0 : Int32), .int (0 : Int32)]) := f1
  have hC1 := (f2 _ (by omega)).trans hC1
  have hfr : ∀ i, i < k0 → ct4 i = ct0 i := fun i hi => (f2 i (by omega)).trans (hfr i hi)
  refine rc_iconst E dX8_init_23 ki_0 ?_
  refine rc_istore_n (L' := [(1, _), (0, _)]) E dX8_init_24 rfl (by decide) rfl ?_
  refine rc_loop E true (host := "NoodleCanal") (N := 20) (k0 := k0) (ka := k0 + 1) (nb := k0 + 2) (jF := 0) (t := 7) (ci := 2) (fv := [.null, .int 0, .int 0, .int 0, .int 0, .int 0]) (fsT := [.ref a1, .int (0 : Int32), .int (0 : Int32)]) (cT := 5) (cells0 := 1) (slots0 := 20) (adB := ad1) (ctB := ct4) dX8_init_25 dX8_init_26 dX8_init_27 dX8_init_30 dX8_init_31 dX8_init_34 dX8_init_35 dX8_init_38 dX8_init_39 dX8_init_42 dX8_init_43 dX8_init_46 dX8_init_47 dX8_init_50 c_X4_init (by intro ad ad' b r hr h; exact FX4_congr tc ad ad' b r hr (fun k hk => h k (by omega))) (fun _ _ => ⟨_, rfl⟩) cd_X4_init cn_X4_init (Or.inr (E.2.2.2.2.2.2.2.1.2.2.2 ("NoodleCanal$Script", 24, ⟨"NoodleCanal$Command", "<init>", "()V"⟩) (by decide +kernel))) (by decide) (C := RX4) rfl iT_8 (by decide) fl_X8_11 rfl rfl rfl iT_4 tyX4 tyX4_ok (fun j hj => by rcases (show j = 0 ∨ j = 1 ∨ j = 2 ∨ j = 3 ∨ j = 4 ∨ j = 5 by omega) with rfl | rfl | rfl | rfl | rfl | rfl <;> rfl) kc_X8_9 ki_X4 kn_X4 rfl (by decide) rfl (by decide) (by omega) (by omega) (by omega) (by omega) hA0 hA1 hC0 (fun i hi => hku i (Or.inr hi)) ⟨Nat.le_of_ble_eq_true rfl, Nat.le_of_ble_eq_true rfl⟩ ⟨Nat.le_of_ble_eq_true rfl, Nat.le_of_ble_eq_true rfl⟩ (fun adP ctP g1 g2 g3 g4 => ?_) 20 0 (by omega) ad1 ct4 (fun _ _ => rfl) (fun _ _ _ => rfl) ⟨_, hC1, fun j hj => absurd hj (by omega)⟩ (fun j hj => absurd hj (by omega))
  have hku : ∀ i, i ≤ k0 ∨ 1000 ≤ i → adP i = ad0 i := fun i hi => (g1 i (by omega)).trans (hku i hi)
  have hfr : ∀ i, i < k0 → ctP i = ct0 i := fun i hi => (g2 i (by omega) (by omega)).trans (hfr i hi)
  have hA0 := (g1 k0 (by omega)).trans hA0
  have hA1 := (g1 (k0 + 1) (by omega)).trans hA1
  have hC0 := (g2 k0 (by omega) (by omega)).trans hC0
  have hn1 : k0 + 2 + (0 + 1) * 20 = k0 + 1 + 21 := by omega
  rw [hn1]
  refine rc_vret (k0 := k0) (x := 21) (ct0 := ct0) (F := FX8) E hr rfl hku hfr (fun r hr9 => ?_) ⟨Nat.le_of_ble_eq_true rfl, Nat.le_of_ble_eq_true rfl⟩ dX8_init_53
  unfold FX8
  by_cases c0 : r = 0
  · subst c0
    rw [if_pos rfl, show k0 + 0 = k0 from rfl, hC0, ← hA1]
  rw [if_neg c0]
  by_cases c1 : r = 1
  · subst c1
    rw [if_pos rfl, g3, tr_congr (fun j hj => (show adP (k0 + 2 + (0 + 1) * j) = adP (k0 + 2 + j) by rw [show k0 + 2 + (0 + 1) * j = k0 + 2 + j by omega]))]
  rw [if_neg c1]
  have q := g4 (r - 2) (by omega) 0 (by omega)
  rw [show k0 + 2 + (0 + 1) * (r - 2) + 0 = k0 + r by omega] at q
  exact q
set_option maxRecDepth 100000 in
set_option maxHeartbeats 4000000 in
theorem c_X5_init : MC yX5_init cX5_init 2 4 489 3576 489 (.inr (3, [.null, .int 0, .int 0])) FX5 := by
  refine MC_of RX5 rfl (by decide +kernel) rfl (Nat.le_of_ble_eq_true rfl) (fun p l e s m below meth c D tc A ad0 ct0 k0 hfr0 hb E hr => ?_)
  have hA0 : ad0 k0 = ad0 k0 := rfl
  have hC0 := hfr0
  have hku : ∀ i, i ≤ k0 ∨ 1000 ≤ i → ad0 i = ad0 i := fun _ _ => rfl
  have hfr : ∀ i, i < k0 → ct0 i = ct0 i := fun _ _ => rfl
  refine rc_aload_n E dX5_init_0 rfl 0 rfl ?_
  refine rc_obj E mo_X5_3 ⟨Nat.le_of_ble_eq_true rfl, Nat.le_of_ble_eq_true rfl⟩ dX5_init_1 ?_
  refine rc_aload_n E dX5_init_4 rfl 0 rfl ?_
  refine rc_bipush E dX5_init_5 kb_8 ?_
  refine rc_newq (N' := 8) (t := 6) E rfl (by decide +kernel) kc_X5_9 (by decide) rfl (Nat.le_of_ble_eq_true rfl) ⟨Nat.le_of_ble_eq_true rfl, Nat.le_of_ble_eq_true rfl⟩ dX5_init_7 (fun a1 ad1 ct1 f0 f1 f2 f3 => ?_)
  have hA1 : ad1 (k0 + 1) = a1 := f0
  have hC1 : ct1 (k0 + 1) = .inl (tc 6, 8, .inr (.inr (.inr (.inr (fun _ => none))))) := f2
  have hA0 := (f1 _ (by omega)).trans hA0
  have hku : ∀ i, i ≤ k0 ∨ 1000 ≤ i → ad1 i = ad0 i := fun i hi => (f1 i (by omega)).trans (hku i hi)
  have hC0 := (f3 _ (by omega)).trans hC0
  have hfr : ∀ i, i < k0 → ct1 i = ct0 i := fun i hi => (f3 i (by omega)).trans (hfr i hi)
  refine rc_putF (k := k0) E (C := RX5) (T := TX5) (N := 3) (j := 0) (fs := [.null, .int 0, .int 0]) (ci := 3) (by omega) hA0 hC0 rfl iT_5 tyX5 tyX5_ok nmX5 (by decide) fl_X5_11 rfl rfl rfl (tyX5_ok 0 (by decide)) rfl rfl (Nat.le_of_ble_eq_true rfl) dX5_init_10 (fun ct2 f1 f2 => ?_)
  have hC0 : ct2 k0 = .inr (3, [.ref a1, .int 0, .int 0]) := f1
  have hC1 := (f2 _ (by omega)).trans hC1
  have hfr : ∀ i, i < k0 → ct2 i = ct0 i := fun i hi => (f2 i (by omega)).trans (hfr i hi)
  refine rc_aload_n E dX5_init_13 rfl 0 rfl ?_
  refine rc_iconst E dX5_init_14 ki_0 ?_
  refine rc_put (k := k0) E (C := RX5) (T := TX5) (N := 3) (j := 1) (fs := [.ref a1, .int 0, .int 0]) (ci := 3) (by omega) hA0 hC0 rfl iT_5 tyX5 tyX5_ok nmX5 (by decide) fl_X5_17 rfl rfl (tyX5_ok 1 (by decide)) rfl rfl (Nat.le_of_ble_eq_true rfl) dX5_init_15 (fun ct3 f1 f2 => ?_)
  have hC0 : ct3 k0 = .inr (3, [.ref a1, .int (0 : Int32), .int 0]) := f1
  have hC1 := (f2 _ (by omega)).trans hC1
  have hfr : ∀ i, i < k0 → ct3 i = ct0 i := fun i hi => (f2 i (by omega)).trans (hfr i hi)
  refine rc_aload_n E dX5_init_18 rfl 0 rfl ?_
  refine rc_iconst E dX5_init_19 ki_0 ?_
  refine rc_put (k := k0) E (C := RX5) (T := TX5) (N := 3) (j := 2) (fs := [.ref a1, .int (0 : Int32), .int 0]) (ci := 3) (by omega) hA0 hC0 rfl iT_5 tyX5 tyX5_ok nmX5 (by decide) fl_X5_21 rfl rfl (tyX5_ok 2 (by decide)) rfl rfl (Nat.le_of_ble_eq_true rfl) dX5_init_20 (fun ct4 f1 f2 => ?_)
  have hC0 : ct4 k0 = .inr (3, [.ref a1, .int (0 : Int32), .int (0 : Int32)]) := f1
  have hC1 := (f2 _ (by omega)).trans hC1
  have hfr : ∀ i, i < k0 → ct4 i = ct0 i := fun i hi => (f2 i (by omega)).trans (hfr i hi)
  refine rc_iconst E dX5_init_23 ki_0 ?_
  refine rc_istore_n (L' := [(1, _), (0, _)]) E dX5_init_24 rfl (by decide) rfl ?_
  refine rc_loop E false (host := "NoodleCanal") (N := 8) (k0 := k0) (ka := k0 + 1) (nb := k0 + 2) (jF := 0) (t := 6) (ci := 1) (fv := [.int 0, .null, .null, .null, .int 0, .null, .int 0, .null, .int 0, .int 0, .int 0, .int 0, .int 0, .int 0]) (fsT := [.ref a1, .int (0 : Int32), .int (0 : Int32)]) (cT := 3) (cells0 := 1) (slots0 := 8) (adB := ad1) (ctB := ct4) dX5_init_25 dX5_init_26 dX5_init_27 dX5_init_30 dX5_init_31 dX5_init_34 dX5_init_35 dX5_init_38 dX5_init_39 dX5_init_42 dX5_init_43 dX5_init_46 dX5_init_47 dX5_init_50 c_X2_init (by intro ad ad' b r hr h; exact FX2_congr tc ad ad' b r hr (fun k hk => h k (by omega))) (fun _ _ => ⟨_, rfl⟩) cd_X2_init cn_X2_init (Or.inl mi_X5_24) (by decide) (C := RX2) rfl iT_5 (by decide) fl_X5_11 rfl rfl rfl iT_2 tyX2 tyX2_ok (fun j hj => by rcases (show j = 0 ∨ j = 1 ∨ j = 2 ∨ j = 3 ∨ j = 4 ∨ j = 5 ∨ j = 6 ∨ j = 7 ∨ j = 8 ∨ j = 9 ∨ j = 10 ∨ j = 11 ∨ j = 12 ∨ j = 13 by omega) with rfl | rfl | rfl | rfl | rfl | rfl | rfl | rfl | rfl | rfl | rfl | rfl | rfl | rfl <;> rfl) kc_X5_9 ki_X2 kn_X2 rfl (by decide) rfl (by decide) (by omega) (by omega) (by omega) (by omega) hA0 hA1 hC0 (fun i hi => hku i (Or.inr hi)) ⟨Nat.le_of_ble_eq_true rfl, Nat.le_of_ble_eq_true rfl⟩ ⟨Nat.le_of_ble_eq_true rfl, Nat.le_of_ble_eq_true rfl⟩ (fun adP ctP g1 g2 g3 g4 => ?_) 8 0 (by omega) ad1 ct4 (fun _ _ => rfl) (fun _ _ _ => rfl) ⟨_, hC1, fun j hj => absurd hj (by omega)⟩ (fun j hj => absurd hj (by omega))
  have hku : ∀ i, i ≤ k0 ∨ 1000 ≤ i → adP i = ad0 i := fun i hi => (g1 i (by omega)).trans (hku i hi)
  have hfr : ∀ i, i < k0 → ctP i = ct0 i := fun i hi => (g2 i (by omega) (by omega)).trans (hfr i hi)
  have hA0 := (g1 k0 (by omega)).trans hA0
  have hA1 := (g1 (k0 + 1) (by omega)).trans hA1
  have hC0 := (g2 k0 (by omega) (by omega)).trans hC0
  have hn1 : k0 + 2 + (60 + 1) * 8 = k0 + 1 + 489 := by omega
  rw [hn1]
  refine rc_vret (k0 := k0) (x := 489) (ct0 := ct0) (F := FX5) E hr rfl hku hfr (fun r hr9 => ?_) ⟨Nat.le_of_ble_eq_true rfl, Nat.le_of_ble_eq_true rfl⟩ dX5_init_53
  unfold FX5
  by_cases c0 : r = 0
  · subst c0
    rw [if_pos rfl, show k0 + 0 = k0 from rfl, hC0, ← hA1]
  rw [if_neg c0]
  by_cases c1 : r = 1
  · subst c1
    rw [if_pos rfl, g3]
  rw [if_neg c1]
  have q := g4 ((r - 2) / 61) (by omega) ((r - 2) % 61) (by omega)
  rw [show k0 + 2 + (60 + 1) * ((r - 2) / 61) + (r - 2) % 61 = k0 + r by omega] at q
  exact q
