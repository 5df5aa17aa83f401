theorem ki_X1 : Cond.instantiable RX1 9 ∈ TS := TS_of (tin_1 _ (List.mem_of_getElem? (i := 159) (by decide +kernel))) (by decide +kernel)
theorem kn_X1 : Cond.initialized RX1 ∈ TS := TS_of (tin_1 _ (List.mem_of_getElem? (i := 10) (by decide +kernel))) (by decide +kernel)
theorem cd_X1_init : Cond.code yX1_init cX1_init 1 none ∈ TS := TS_of (tin_1 _ (List.mem_of_getElem? (i := 162) (by decide +kernel))) (by decide +kernel)
theorem cn_X1_init : CN yX1_init := ⟨kn_X1, TS_of (tin_1 _ (List.mem_of_getElem? (i := 161) (by decide +kernel))) (by decide +kernel), rfl, by decide +kernel, by decide +kernel, by decide +kernel⟩
theorem ki_X2 : Cond.instantiable RX2 14 ∈ TS := TS_of (tin_1 _ (List.mem_of_getElem? (i := 125) (by decide +kernel))) (by decide +kernel)
theorem kn_X2 : Cond.initialized RX2 ∈ TS := TS_of (tin_1 _ (List.mem_of_getElem? (i := 8) (by decide +kernel))) (by decide +kernel)
theorem cd_X2_init : Cond.code yX2_init cX2_init 2 none ∈ TS := TS_of (tin_1 _ (List.mem_of_getElem? (i := 128) (by decide +kernel))) (by decide +kernel)
theorem cn_X2_init : CN yX2_init := ⟨kn_X2, TS_of (tin_1 _ (List.mem_of_getElem? (i := 127) (by decide +kernel))) (by decide +kernel), rfl, by decide +kernel, by decide +kernel, by decide +kernel⟩
theorem ki_X4 : Cond.instantiable RX4 6 ∈ TS := TS_of (tin_1 _ (List.mem_of_getElem? (i := 81) (by decide +kernel))) (by decide +kernel)
theorem kn_X4 : Cond.initialized RX4 ∈ TS := TS_of (tin_1 _ (List.mem_of_getElem? (i := 4) (by decide +kernel))) (by decide +kernel)
theorem cd_X4_init : Cond.code yX4_init cX4_init 1 none ∈ TS := TS_of (tin_1 _ (List.mem_of_getElem? (i := 84) (by decide +kernel))) (by decide +kernel)
theorem cn_X4_init : CN yX4_init := ⟨kn_X4, TS_of (tin_1 _ (List.mem_of_getElem? (i := 83) (by decide +kernel))) (by decide +kernel), rfl, by decide +kernel, by decide +kernel, by decide +kernel⟩
theorem ki_X5 : Cond.instantiable RX5 3 ∈ TS := TS_of (tin_1 _ (List.mem_of_getElem? (i := 118) (by decide +kernel))) (by decide +kernel)
theorem kn_X5 : Cond.initialized RX5 ∈ TS := TS_of (tin_1 _ (List.mem_of_getElem? (i := 7) (by decide +kernel))) (by decide +kernel)
theorem cd_X5_init : Cond.code yX5_init cX5_init 2 none ∈ TS := TS_of (tin_1 _ (List.mem_of_getElem? (i := 121) (by decide +kernel))) (by decide +kernel)
theorem cn_X5_init : CN yX5_init := ⟨kn_X5, TS_of (tin_1 _ (List.mem_of_getElem? (i := 120) (by decide +kernel))) (by decide +kernel), rfl, by decide +kernel, by decide +kernel, by decide +kernel⟩
theorem ki_X6 : Cond.instantiable RX6 8 ∈ TS := TS_of (tin_1 _ (List.mem_of_getElem? (i := 207) (by decide +kernel))) (by decide +kernel)
theorem kn_X6 : Cond.initialized RX6 ∈ TS := TS_of (tin_1 _ (List.mem_of_getElem? (i := 11) (by decide +kernel))) (by decide +kernel)
theorem cd_X6_init : Cond.code yX6_init cX6_init 1 none ∈ TS := TS_of (tin_1 _ (List.mem_of_getElem? (i := 210) (by decide +kernel))) (by decide +kernel)
theorem cn_X6_init : CN yX6_init := ⟨kn_X6, TS_of (tin_1 _ (List.mem_of_getElem? (i := 209) (by decide +kernel))) (by decide +kernel), rfl, by decide +kernel, by decide +kernel, by decide +kernel⟩
theorem ki_X8 : Cond.instantiable RX8 3 ∈ TS := TS_of (tin_1 _ (List.mem_of_getElem? (i := 74) (by decide +kernel))) (by decide +kernel)
theorem kn_X8 : Cond.initialized RX8 ∈ TS := TS_of (tin_1 _ (List.mem_of_getElem? (i := 3) (by decide +kernel))) (by decide +kernel)
theorem cd_X8_init : Cond.code yX8_init cX8_init 2 none ∈ TS := TS_of (tin_1 _ (List.mem_of_getElem? (i := 77) (by decide +kernel))) (by decide +kernel)
theorem cn_X8_init : CN yX8_init := ⟨kn_X8, TS_of (tin_1 _ (List.mem_of_getElem? (i := 76) (by decide +kernel))) (by decide +kernel), rfl, by decide +kernel, by decide +kernel, by decide +kernel⟩
theorem ki_X9 : Cond.instantiable RX9 3 ∈ TS := TS_of (tin_1 _ (List.mem_of_getElem? (i := 136) (by decide +kernel))) (by decide +kernel)
theorem kn_X9 : Cond.initialized RX9 ∈ TS := TS_of (tin_1 _ (List.mem_of_getElem? (i := 9) (by decide +kernel))) (by decide +kernel)
theorem cd_X9_init : Cond.code yX9_init cX9_init 1 none ∈ TS := TS_of (tin_1 _ (List.mem_of_getElem? (i := 139) (by decide +kernel))) (by decide +kernel)
theorem cn_X9_init : CN yX9_init := ⟨kn_X9, TS_of (tin_1 _ (List.mem_of_getElem? (i := 138) (by decide +kernel))) (by decide +kernel), rfl, by decide +kernel, by decide +kernel, by decide +kernel⟩
theorem ki_X10 : Cond.instantiable RX10 8 ∈ TS := TS_of (tin_1 _ (List.mem_of_getElem? (i := 40) (by decide +kernel))) (by decide +kernel)
theorem kn_X10 : Cond.initialized RX10 ∈ TS := TS_of (tin_1 _ (List.mem_of_getElem? (i := 2) (by decide +kernel))) (by decide +kernel)
theorem cd_X10_init : Cond.code yX10_init cX10_init 1 none ∈ TS := TS_of (tin_1 _ (List.mem_of_getElem? (i := 43) (by decide +kernel))) (by decide +kernel)
theorem cn_X10_init : CN yX10_init := ⟨kn_X10, TS_of (tin_1 _ (List.mem_of_getElem? (i := 42) (by decide +kernel))) (by decide +kernel), rfl, by decide +kernel, by decide +kernel, by decide +kernel⟩
theorem ki_X12 : Cond.instantiable RX12 9 ∈ TS := TS_of (tin_1 _ (List.mem_of_getElem? (i := 32) (by decide +kernel))) (by decide +kernel)
theorem kn_X12 : Cond.initialized RX12 ∈ TS := TS_of (tin_1 _ (List.mem_of_getElem? (i := 1) (by decide +kernel))) (by decide +kernel)
theorem cd_X12_init : Cond.code yX12_init cX12_init 1 none ∈ TS := TS_of (tin_1 _ (List.mem_of_getElem? (i := 35) (by decide +kernel))) (by decide +kernel)
theorem cn_X12_init : CN yX12_init := ⟨kn_X12, TS_of (tin_1 _ (List.mem_of_getElem? (i := 34) (by decide +kernel))) (by decide +kernel), rfl, by decide +kernel, by decide +kernel, by decide +kernel⟩
theorem mo_X12_1 : Cond.methodLink RX12 1 Lib.objectInit ∈ TS := TS_of (tin_1 _ (List.mem_of_getElem? (i := 36) (by decide +kernel))) (by decide +kernel)
theorem mi_X12_18 : Cond.methodLink RX12 18 yX8_init ∈ TS := TS_of (tin_1 _ (List.mem_of_getElem? (i := 75) (by decide +kernel))) (by decide +kernel)
theorem mi_X12_25 : Cond.methodLink RX12 25 yX5_init ∈ TS := TS_of (tin_1 _ (List.mem_of_getElem? (i := 119) (by decide +kernel))) (by decide +kernel)
theorem mi_X12_32 : Cond.methodLink RX12 32 yX2_init ∈ TS := TS_of (tin_2 _ (List.mem_of_getElem? (i := 81) (by decide +kernel))) (by decide +kernel)
theorem mo_X1_3 : Cond.methodLink RX1 3 Lib.objectInit ∈ TS := TS_of (tin_1 _ (List.mem_of_getElem? (i := 163) (by decide +kernel))) (by decide +kernel)
theorem mo_X2_3 : Cond.methodLink RX2 3 Lib.objectInit ∈ TS := TS_of (tin_1 _ (List.mem_of_getElem? (i := 129) (by decide +kernel))) (by decide +kernel)
theorem mo_X4_1 : Cond.methodLink RX4 1 Lib.objectInit ∈ TS := TS_of (tin_1 _ (List.mem_of_getElem? (i := 85) (by decide +kernel))) (by decide +kernel)
theorem mo_X5_3 : Cond.methodLink RX5 3 Lib.objectInit ∈ TS := TS_of (tin_1 _ (List.mem_of_getElem? (i := 122) (by decide +kernel))) (by decide +kernel)
theorem mi_X5_24 : Cond.methodLink RX5 24 yX2_init ∈ TS := TS_of (tin_1 _ (List.mem_of_getElem? (i := 126) (by decide +kernel))) (by decide +kernel)
theorem mo_X6_3 : Cond.methodLink RX6 3 Lib.objectInit ∈ TS := TS_of (tin_1 _ (List.mem_of_getElem? (i := 211) (by decide +kernel))) (by decide +kernel)
theorem mo_X8_3 : Cond.methodLink RX8 3 Lib.objectInit ∈ TS := TS_of (tin_1 _ (List.mem_of_getElem? (i := 78) (by decide +kernel))) (by decide +kernel)
theorem mo_X9_3 : Cond.methodLink RX9 3 Lib.objectInit ∈ TS := TS_of (tin_1 _ (List.mem_of_getElem? (i := 140) (by decide +kernel))) (by decide +kernel)
theorem mo_X10_3 : Cond.methodLink RX10 3 Lib.objectInit ∈ TS := TS_of (tin_1 _ (List.mem_of_getElem? (i := 44) (by decide +kernel))) (by decide +kernel)
theorem mi_L_189 : Cond.methodLink RL 189 yX12_init ∈ TS := TS_of (tin_1 _ (List.mem_of_getElem? (i := 33) (by decide +kernel))) (by decide +kernel)
theorem mo_J5_3 : Cond.methodLink RJ5 3 Lib.objectInit ∈ TS := TS_of (tin_6 _ (List.mem_of_getElem? (i := 10) (by decide +kernel))) (by decide +kernel)
theorem mo_J0_1 : Cond.methodLink RJ0 1 Lib.objectInit ∈ TS := TS_of (tin_6 _ (List.mem_of_getElem? (i := 184) (by decide +kernel))) (by decide +kernel)
/-! first contents -/
def rO (j : Nat) : Int32 := if j = 7 then -1 else 0
def rS (j : Nat) : Int32 := if j = 2 then -1 else 0
def r0 (_ : Nat) : Int32 := 0
def FX9 (_ : Nat → ClassId) (_ : Nat → Nat) (_ _ : Nat) : va_E := eSection rS
def FX6 (_ : Nat → ClassId) (ad : Nat → Nat) (_ _ : Nat) : va_E := eOrder ad rO
def rCm (j : Nat) : Int32 := if j = 0 then 7 else 0
def FX4 (_ : Nat → ClassId) (ad : Nat → Nat) (_ _ : Nat) : va_E := eCommand ad rCm
def FX1 (tc : Nat → ClassId) (ad : Nat → Nat) (k r : Nat) : va_E := if r = 0 then eBarge ad k r0 else ari (tc 1) 4 r0
def rT (j : Nat) : Int32 := if j = 7 then -1 else 0
def FX10 (tc : Nat → ClassId) (ad : Nat → Nat) (k r : Nat) : va_E := if r = 0 then .inr (7, [.ref (ad (k + 1)), .int 0, .int 0, .int 0, .int 0, .int 0, .int 0, .int (-1)]) else ari (tc 0) 500 r0
set_option maxRecDepth 100000 in
set_option maxHeartbeats 4000000 in
theorem c_X9_init : MC yX9_init cX9_init 1 1 0 0 0 (.inr (6, [.int 0, .int 0, .int 0])) FX9 := by
  refine MC_of RX9 rfl (by decide +kernel) rfl (Nat.le_of_ble_eq_true rfl) (fun p l e s m below meth c D tc A ad0 ct0 k0 hfr0 hb E hr => ?_)
  have hA0 : ad0 k0 = ad0 k0 := rfl
  have hC0 := hfr0
  have hku : ∀ i, i ≤ k0 ∨ 1000 ≤ i → ad0 i = ad0 i := fun _ _ => rfl
  have hfr : ∀ i, i < k0 → ct0 i = ct0 i := fun _ _ => rfl
  refine rc_aload_n E dX9_init_0 rfl 0 rfl ?_
  refine rc_obj E mo_X9_3 ⟨Nat.le_of_ble_eq_true rfl, Nat.le_of_ble_eq_true rfl⟩ dX9_init_1 ?_
  refine rc_aload_n E dX9_init_4 rfl 0 rfl ?_
  refine rc_iconst E dX9_init_5 ki_0 ?_
  refine rc_put (k := k0) E (C := RX9) (T := TX9) (N := 3) (j := 0) (fs := [.int 0, .int 0, .int 0]) (ci := 6) (by omega) hA0 hC0 rfl iT_9 tyX9 tyX9_ok nmX9 (by decide) fl_X9_9 rfl rfl (tyX9_ok 0 (by decide)) rfl rfl (Nat.le_of_ble_eq_true rfl) dX9_init_6 (fun ct1 f1 f2 => ?_)
  have hC0 : ct1 k0 = .inr (6, [.int (0 : Int32), .int 0, .int 0]) := f1
  have hfr : ∀ i, i < k0 → ct1 i = ct0 i := fun i hi => (f2 i (by omega)).trans (hfr i hi)
  refine rc_aload_n E dX9_init_9 rfl 0 rfl ?_
  refine rc_iconst E dX9_init_10 ki_0 ?_
  refine rc_put (k := k0) E (C := RX9) (T := TX9) (N := 3) (j := 1) (fs := [.int (0 : Int32), .int 0, .int 0]) (ci := 6) (by omega) hA0 hC0 rfl iT_9 tyX9 tyX9_ok nmX9 (by decide) fl_X9_15 rfl rfl (tyX9_ok 1 (by decide)) rfl rfl (Nat.le_of_ble_eq_true rfl) dX9_init_11 (fun ct2 f1 f2 => ?_)
  have hC0 : ct2 k0 = .inr (6, [.int (0 : Int32), .int (0 : Int32), .int 0]) := f1
  have hfr : ∀ i, i < k0 → ct2 i = ct0 i := fun i hi => (f2 i (by omega)).trans (hfr i hi)
  refine rc_aload_n E dX9_init_14 rfl 0 rfl ?_
  refine rc_iconst E dX9_init_15 ki_m1 ?_
  refine rc_put (k := k0) E (C := RX9) (T := TX9) (N := 3) (j := 2) (fs := [.int (0 : Int32), .int (0 : Int32), .int 0]) (ci := 6) (by omega) hA0 hC0 rfl iT_9 tyX9 tyX9_ok nmX9 (by decide) fl_X9_18 rfl rfl (tyX9_ok 2 (by decide)) rfl rfl (Nat.le_of_ble_eq_true rfl) dX9_init_16 (fun ct3 f1 f2 => ?_)
  have hC0 : ct3 k0 = .inr (6, [.int (0 : Int32), .int (0 : Int32), .int (-1 : Int32)]) := f1
  have hfr : ∀ i, i < k0 → ct3 i = ct0 i := fun i hi => (f2 i (by omega)).trans (hfr i hi)
  refine rc_vret (k0 := k0) (x := 0) (ct0 := ct0) (F := FX9) E hr (by omega) hku hfr (fun r hr9 => ?_) ⟨Nat.le_of_ble_eq_true rfl, Nat.le_of_ble_eq_true rfl⟩ dX9_init_19
  have hr0 : r = 0 := by omega
  subst hr0
  exact hC0
set_option maxRecDepth 100000 in
set_option maxHeartbeats 4000000 in
theorem c_X6_init : MC yX6_init cX6_init 1 1 0 0 0 (.inr (4, [.int 0, .int 0, .int 0, .int 0, .int 0, .int 0, .null, .int 0])) FX6 := by
  refine MC_of RX6 rfl (by decide +kernel) rfl (Nat.le_of_ble_eq_true rfl) (fun p l e s m below meth c D tc A ad0 ct0 k0 hfr0 hb E hr => ?_)
  have hA0 : ad0 k0 = ad0 k0 := rfl
  have hC0 := hfr0
  have hku : ∀ i, i ≤ k0 ∨ 1000 ≤ i → ad0 i = ad0 i := fun _ _ => rfl
  have hfr : ∀ i, i < k0 → ct0 i = ct0 i := fun _ _ => rfl
  refine rc_aload_n E dX6_init_0 rfl 0 rfl ?_
  refine rc_obj E mo_X6_3 ⟨Nat.le_of_ble_eq_true rfl, Nat.le_of_ble_eq_true rfl⟩ dX6_init_1 ?_
  refine rc_aload_n E dX6_init_4 rfl 0 rfl ?_
  refine rc_iconst E dX6_init_5 ki_0 ?_
  refine rc_put (k := k0) E (C := RX6) (T := TX6) (N := 8) (j := 0) (fs := [.int 0, .int 0, .int 0, .int 0, .int 0, .int 0, .null, .int 0]) (ci := 4) (by omega) hA0 hC0 rfl iT_6 tyX6 tyX6_ok nmX6 (by decide) fl_X6_9 rfl rfl (tyX6_ok 0 (by decide)) rfl rfl (Nat.le_of_ble_eq_true rfl) dX6_init_6 (fun ct1 f1 f2 => ?_)
  have hC0 : ct1 k0 = .inr (4, [.int (0 : Int32), .int 0, .int 0, .int 0, .int 0, .int 0, .null, .int 0]) := f1
  have hfr : ∀ i, i < k0 → ct1 i = ct0 i := fun i hi => (f2 i (by omega)).trans (hfr i hi)
  refine rc_aload_n E dX6_init_9 rfl 0 rfl ?_
  refine rc_iconst E dX6_init_10 ki_0 ?_
  refine rc_put (k := k0) E (C := RX6) (T := TX6) (N := 8) (j := 1) (fs := [.int (0 : Int32), .int 0, .int 0, .int 0, .int 0, .int 0, .null, .int 0]) (ci := 4) (by omega) hA0 hC0 rfl iT_6 tyX6 tyX6_ok nmX6 (by decide) fl_X6_15 rfl rfl (tyX6_ok 1 (by decide)) rfl rfl (Nat.le_of_ble_eq_true rfl) dX6_init_11 (fun ct2 f1 f2 => ?_)
  have hC0 : ct2 k0 = .inr (4, [.int (0 : Int32), .int (0 : Int32), .int 0, .int 0, .int 0, .int 0, .null, .int 0]) := f1
  have hfr : ∀ i, i < k0 → ct2 i = ct0 i := fun i hi => (f2 i (by omega)).trans (hfr i hi)
  refine rc_aload_n E dX6_init_14 rfl 0 rfl ?_
  refine rc_iconst E dX6_init_15 ki_0 ?_
  refine rc_put (k := k0) E (C := RX6) (T := TX6) (N := 8) (j := 2) (fs := [.int (0 : Int32), .int (0 : Int32), .int 0, .int 0, .int 0, .int 0, .null, .int 0]) (ci := 4) (by omega) hA0 hC0 rfl iT_6 tyX6 tyX6_ok nmX6 (by decide) fl_X6_18 rfl rfl (tyX6_ok 2 (by decide)) rfl rfl (Nat.le_of_ble_eq_true rfl) dX6_init_16 (fun ct3 f1 f2 => ?_)
  have hC0 : ct3 k0 = .inr (4, [.int (0 : Int32), .int (0 : Int32), .int (0 : Int32), .int 0, .int 0, .int 0, .null, .int 0]) := f1
  have hfr : ∀ i, i < k0 → ct3 i = ct0 i := fun i hi => (f2 i (by omega)).trans (hfr i hi)
  refine rc_aload_n E dX6_init_19 rfl 0 rfl ?_
  refine rc_iconst E dX6_init_20 ki_0 ?_
  refine rc_put (k := k0) E (C := RX6) (T := TX6) (N := 8) (j := 3) (fs := [.int (0 : Int32), .int (0 : Int32), .int (0 : Int32), .int 0, .int 0, .int 0, .null, .int 0]) (ci := 4) (by omega) hA0 hC0 rfl iT_6 tyX6 tyX6_ok nmX6 (by decide) fl_X6_21 rfl rfl (tyX6_ok 3 (by decide)) rfl rfl (Nat.le_of_ble_eq_true rfl) dX6_init_21 (fun ct4 f1 f2 => ?_)
  have hC0 : ct4 k0 = .inr (4, [.int (0 : Int32), .int (0 : Int32), .int (0 : Int32), .int (0 : Int32), .int 0, .int 0, .null, .int 0]) := f1
  have hfr : ∀ i, i < k0 → ct4 i = ct0 i := fun i hi => (f2 i (by omega)).trans (hfr i hi)
  refine rc_aload_n E dX6_init_24 rfl 0 rfl ?_
  refine rc_iconst E dX6_init_25 ki_0 ?_
  refine rc_put (k := k0) E (C := RX6) (T := TX6) (N := 8) (j := 4) (fs := [.int (0 : Int32), .int (0 : Int32), .int (0 : Int32), .int (0 : Int32), .int 0, .int 0, .null, .int 0]) (ci := 4) (by omega) hA0 hC0 rfl iT_6 tyX6 tyX6_ok nmX6 (by decide) fl_X6_24 rfl rfl (tyX6_ok 4 (by decide)) rfl rfl (Nat.le_of_ble_eq_true rfl) dX6_init_26 (fun ct5 f1 f2 => ?_)
  have hC0 : ct5 k0 = .inr (4, [.int (0 : Int32), .int (0 : Int32), .int (0 : Int32), .int (0 : Int32), .int (0 : Int32), .int 0, .null, .int 0]) := f1
  have hfr : ∀ i, i < k0 → ct5 i = ct0 i := fun i hi => (f2 i (by omega)).trans (hfr i hi)
  refine rc_aload_n E dX6_init_29 rfl 0 rfl ?_
  refine rc_iconst E dX6_init_30 ki_0 ?_
  refine rc_put (k := k0) E (C := RX6) (T := TX6) (N := 8) (j := 5) (fs := [.int (0 : Int32), .int (0 : Int32), .int (0 : Int32), .int (0 : Int32), .int (0 : Int32), .int 0, .null, .int 0]) (ci := 4) (by omega) hA0 hC0 rfl iT_6 tyX6 tyX6_ok nmX6 (by decide) fl_X6_27 rfl rfl (tyX6_ok 5 (by decide)) rfl rfl (Nat.le_of_ble_eq_true rfl) dX6_init_31 (fun ct6 f1 f2 => ?_)
  have hC0 : ct6 k0 = .inr (4, [.int (0 : Int32), .int (0 : Int32), .int (0 : Int32), .int (0 : Int32), .int (0 : Int32), .int (0 : Int32), .null, .int 0]) := f1
  have hfr : ∀ i, i < k0 → ct6 i = ct0 i := fun i hi => (f2 i (by omega)).trans (hfr i hi)
  refine rc_aload_n E dX6_init_34 rfl 0 rfl ?_
  refine rc_gsO (i := 0) E (by decide) rfl fl_X6_31 dX6_init_35 ?_
  refine rc_put (k := k0) E (C := RX6) (T := TX6) (N := 8) (j := 6) (fs := [.int (0 : Int32), .int (0 : Int32), .int (0 : Int32), .int (0 : Int32), .int (0 : Int32), .int (0 : Int32), .null, .int 0]) (ci := 4) (by omega) hA0 hC0 rfl iT_6 tyX6 tyX6_ok nmX6 (by decide) fl_X6_37 rfl rfl (tyX6_ok 6 (by decide)) rfl rfl (Nat.le_of_ble_eq_true rfl) dX6_init_38 (fun ct7 f1 f2 => ?_)
  have hC0 : ct7 k0 = .inr (4, [.int (0 : Int32), .int (0 : Int32), .int (0 : Int32), .int (0 : Int32), .int (0 : Int32), .int (0 : Int32), .ref (ad0 (2000 + 0)), .int 0]) := f1
  have hfr : ∀ i, i < k0 → ct7 i = ct0 i := fun i hi => (f2 i (by omega)).trans (hfr i hi)
  refine rc_aload_n E dX6_init_41 rfl 0 rfl ?_
  refine rc_iconst E dX6_init_42 ki_m1 ?_
  refine rc_put (k := k0) E (C := RX6) (T := TX6) (N := 8) (j := 7) (fs := [.int (0 : Int32), .int (0 : Int32), .int (0 : Int32), .int (0 : Int32), .int (0 : Int32), .int (0 : Int32), .ref (ad0 (2000 + 0)), .int 0]) (ci := 4) (by omega) hA0 hC0 rfl iT_6 tyX6 tyX6_ok nmX6 (by decide) fl_X6_40 rfl rfl (tyX6_ok 7 (by decide)) rfl rfl (Nat.le_of_ble_eq_true rfl) dX6_init_43 (fun ct8 f1 f2 => ?_)
  have hC0 : ct8 k0 = .inr (4, [.int (0 : Int32), .int (0 : Int32), .int (0 : Int32), .int (0 : Int32), .int (0 : Int32), .int (0 : Int32), .ref (ad0 (2000 + 0)), .int (-1 : Int32)]) := f1
  have hfr : ∀ i, i < k0 → ct8 i = ct0 i := fun i hi => (f2 i (by omega)).trans (hfr i hi)
  refine rc_vret (k0 := k0) (x := 0) (ct0 := ct0) (F := FX6) E hr (by omega) hku hfr (fun r hr9 => ?_) ⟨Nat.le_of_ble_eq_true rfl, Nat.le_of_ble_eq_true rfl⟩ dX6_init_46
  have hr0 : r = 0 := by omega
  subst hr0
  have h9 := hku 2000 (by omega)
  refine hC0.trans ?_
  show _ = (.inr (4, [.int 0, .int 0, .int 0, .int 0, .int 0, .int (bz 0), .ref (ad0 (2000 + (0 : Int32).toNatClampNeg)), .int (-1)]) : va_E)
  rw [bz_0]
  rfl
set_option maxRecDepth 100000 in
set_option maxHeartbeats 4000000 in
theorem c_X4_init : MC yX4_init cX4_init 1 1 0 0 0 (.inr (2, [.null, .int 0, .int 0, .int 0, .int 0, .int 0])) FX4 := by
  refine MC_of RX4 rfl (by decide +kernel) rfl (Nat.le_of_ble_eq_true rfl) (fun p l e s m below meth c D tc A ad0 ct0 k0 hfr0 hb E hr => ?_)
  have hA0 : ad0 k0 = ad0 k0 := rfl
  have hC0 := hfr0
  have hku : ∀ i, i ≤ k0 ∨ 1000 ≤ i → ad0 i = ad0 i := fun _ _ => rfl
  have hfr : ∀ i, i < k0 → ct0 i = ct0 i := fun _ _ => rfl
  refine rc_aload_n E dX4_init_0 rfl 0 rfl ?_
  refine rc_obj E mo_X4_1 ⟨Nat.le_of_ble_eq_true rfl, Nat.le_of_ble_eq_true rfl⟩ dX4_init_1 ?_
  refine rc_aload_n E dX4_init_4 rfl 0 rfl ?_
  refine rc_gsV (i := 0) E (by decide) rfl fl_X4_7 dX4_init_5 ?_
  refine rc_put (k := k0) E (C := RX4) (T := TX4) (N := 6) (j := 0) (fs := [.null, .int 0, .int 0, .int 0, .int 0, .int 0]) (ci := 2) (by omega) hA0 hC0 rfl iT_4 tyX4 tyX4_ok nmX4 (by decide) fl_X4_13 rfl rfl (tyX4_ok 0 (by decide)) rfl rfl (Nat.le_of_ble_eq_true rfl) dX4_init_8 (fun ct1 f1 f2 => ?_)
  have hC0 : ct1 k0 = .inr (2, [.ref (ad0 (2107 + 0)), .int 0, .int 0, .int 0, .int 0, .int 0]) := f1
  have hfr : ∀ i, i < k0 → ct1 i = ct0 i := fun i hi => (f2 i (by omega)).trans (hfr i hi)
  refine rc_aload_n E dX4_init_11 rfl 0 rfl ?_
  refine rc_iconst E dX4_init_12 ki_0 ?_
  refine rc_put (k := k0) E (C := RX4) (T := TX4) (N := 6) (j := 1) (fs := [.ref (ad0 (2107 + 0)), .int 0, .int 0, .int 0, .int 0, .int 0]) (ci := 2) (by omega) hA0 hC0 rfl iT_4 tyX4 tyX4_ok nmX4 (by decide) fl_X4_18 rfl rfl (tyX4_ok 1 (by decide)) rfl rfl (Nat.le_of_ble_eq_true rfl) dX4_init_13 (fun ct2 f1 f2 => ?_)
  have hC0 : ct2 k0 = .inr (2, [.ref (ad0 (2107 + 0)), .int (0 : Int32), .int 0, .int 0, .int 0, .int 0]) := f1
  have hfr : ∀ i, i < k0 → ct2 i = ct0 i := fun i hi => (f2 i (by omega)).trans (hfr i hi)
  refine rc_aload_n E dX4_init_16 rfl 0 rfl ?_
  refine rc_iconst E dX4_init_17 ki_0 ?_
  refine rc_put (k := k0) E (C := RX4) (T := TX4) (N := 6) (j := 2) (fs := [.ref (ad0 (2107 + 0)), .int (0 : Int32), .int 0, .int 0, .int 0, .int 0]) (ci := 2) (by omega) hA0 hC0 rfl iT_4 tyX4 tyX4_ok nmX4 (by decide) fl_X4_22 rfl rfl (tyX4_ok 2 (by decide)) rfl rfl (Nat.le_of_ble_eq_true rfl) dX4_init_18 (fun ct3 f1 f2 => ?_)
  have hC0 : ct3 k0 = .inr (2, [.ref (ad0 (2107 + 0)), .int (0 : Int32), .int (0 : Int32), .int 0, .int 0, .int 0]) := f1
  have hfr : ∀ i, i < k0 → ct3 i = ct0 i := fun i hi => (f2 i (by omega)).trans (hfr i hi)
  refine rc_aload_n E dX4_init_21 rfl 0 rfl ?_
  refine rc_iconst E dX4_init_22 ki_0 ?_
  refine rc_put (k := k0) E (C := RX4) (T := TX4) (N := 6) (j := 3) (fs := [.ref (ad0 (2107 + 0)), .int (0 : Int32), .int (0 : Int32), .int 0, .int 0, .int 0]) (ci := 2) (by omega) hA0 hC0 rfl iT_4 tyX4 tyX4_ok nmX4 (by decide) fl_X4_25 rfl rfl (tyX4_ok 3 (by decide)) rfl rfl (Nat.le_of_ble_eq_true rfl) dX4_init_23 (fun ct4 f1 f2 => ?_)
  have hC0 : ct4 k0 = .inr (2, [.ref (ad0 (2107 + 0)), .int (0 : Int32), .int (0 : Int32), .int (0 : Int32), .int 0, .int 0]) := f1
  have hfr : ∀ i, i < k0 → ct4 i = ct0 i := fun i hi => (f2 i (by omega)).trans (hfr i hi)
  refine rc_aload_n E dX4_init_26 rfl 0 rfl ?_
  refine rc_iconst E dX4_init_27 ki_0 ?_
  refine rc_put (k := k0) E (C := RX4) (T := TX4) (N := 6) (j := 4) (fs := [.ref (ad0 (2107 + 0)), .int (0 : Int32), .int (0 : Int32), .int (0 : Int32), .int 0, .int 0]) (ci := 2) (by omega) hA0 hC0 rfl iT_4 tyX4 tyX4_ok nmX4 (by decide) fl_X4_28 rfl rfl (tyX4_ok 4 (by decide)) rfl rfl (Nat.le_of_ble_eq_true rfl) dX4_init_28 (fun ct5 f1 f2 => ?_)
  have hC0 : ct5 k0 = .inr (2, [.ref (ad0 (2107 + 0)), .int (0 : Int32), .int (0 : Int32), .int (0 : Int32), .int (0 : Int32), .int 0]) := f1
  have hfr : ∀ i, i < k0 → ct5 i = ct0 i := fun i hi => (f2 i (by omega)).trans (hfr i hi)
  refine rc_aload_n E dX4_init_31 rfl 0 rfl ?_
  refine rc_iconst E dX4_init_32 ki_0 ?_
  refine rc_put (k := k0) E (C := RX4) (T := TX4) (N := 6) (j := 5) (fs := [.ref (ad0 (2107 + 0)), .int (0 : Int32), .int (0 : Int32), .int (0 : Int32), .int (0 : Int32), .int 0]) (ci := 2) (by omega) hA0 hC0 rfl iT_4 tyX4 tyX4_ok nmX4 (by decide) fl_X4_31 rfl rfl (tyX4_ok 5 (by decide)) rfl rfl (Nat.le_of_ble_eq_true rfl) dX4_init_33 (fun ct6 f1 f2 => ?_)
  have hC0 : ct6 k0 = .inr (2, [.ref (ad0 (2107 + 0)), .int (0 : Int32), .int (0 : Int32), .int (0 : Int32), .int (0 : Int32), .int (0 : Int32)]) := f1
  have hfr : ∀ i, i < k0 → ct6 i = ct0 i := fun i hi => (f2 i (by omega)).trans (hfr i hi)
  refine rc_vret (k0 := k0) (x := 0) (ct0 := ct0) (F := FX4) E hr (by omega) hku hfr (fun r hr9 => ?_) ⟨Nat.le_of_ble_eq_true rfl, Nat.le_of_ble_eq_true rfl⟩ dX4_init_36
  have hr0 : r = 0 := by omega
  subst hr0
  exact hC0
set_option maxRecDepth 100000 in
set_option maxHeartbeats 4000000 in
theorem c_X1_init : MC yX1_init cX1_init 1 1 1 4 1 (.inr (0, [.int 0, .int 0, .int 0, .int 0, .int 0, .int 0, .int 0, .null, .int 0])) FX1 := by
  refine MC_of RX1 rfl (by decide +kernel) rfl (Nat.le_of_ble_eq_true rfl) (fun p l e s m below meth c D tc A ad0 ct0 k0 hfr0 hb E hr => ?_)
  have hA0 : ad0 k0 = ad0 k0 := rfl
  have hC0 := hfr0
  have hku : ∀ i, i ≤ k0 ∨ 1000 ≤ i → ad0 i = ad0 i := fun _ _ => rfl
  have hfr : ∀ i, i < k0 → ct0 i = ct0 i := fun _ _ => rfl
  refine rc_aload_n E dX1_init_0 rfl 0 rfl ?_
  refine rc_obj E mo_X1_3 ⟨Nat.le_of_ble_eq_true rfl, Nat.le_of_ble_eq_true rfl⟩ dX1_init_1 ?_
  refine rc_aload_n E dX1_init_4 rfl 0 rfl ?_
  refine rc_iconst E dX1_init_5 ki_0 ?_
  refine rc_put (k := k0) E (C := RX1) (T := TX1) (N := 9) (j := 0) (fs := [.int 0, .int 0, .int 0, .int 0, .int 0, .int 0, .int 0, .null, .int 0]) (ci := 0) (by omega) hA0 hC0 rfl iT_1 tyX1 tyX1_ok nmX1 (by decide) fl_X1_9 rfl rfl (tyX1_ok 0 (by decide)) rfl rfl (Nat.le_of_ble_eq_true rfl) dX1_init_6 (fun ct1 f1 f2 => ?_)
  have hC0 : ct1 k0 = .inr (0, [.int (0 : Int32), .int 0, .int 0, .int 0, .int 0, .int 0, .int 0, .null, .int 0]) := f1
  have hfr : ∀ i, i < k0 → ct1 i = ct0 i := fun i hi => (f2 i (by omega)).trans (hfr i hi)
  refine rc_aload_n E dX1_init_9 rfl 0 rfl ?_
  refine rc_iconst E dX1_init_10 ki_0 ?_
  refine rc_put (k := k0) E (C := RX1) (T := TX1) (N := 9) (j := 1) (fs := [.int (0 : Int32), .int 0, .int 0, .int 0, .int 0, .int 0, .int 0, .null, .int 0]) (ci := 0) (by omega) hA0 hC0 rfl iT_1 tyX1 tyX1_ok nmX1 (by decide) fl_X1_15 rfl rfl (tyX1_ok 1 (by decide)) rfl rfl (Nat.le_of_ble_eq_true rfl) dX1_init_11 (fun ct2 f1 f2 => ?_)
  have hC0 : ct2 k0 = .inr (0, [.int (0 : Int32), .int (0 : Int32), .int 0, .int 0, .int 0, .int 0, .int 0, .null, .int 0]) := f1
  have hfr : ∀ i, i < k0 → ct2 i = ct0 i := fun i hi => (f2 i (by omega)).trans (hfr i hi)
  refine rc_aload_n E dX1_init_14 rfl 0 rfl ?_
  refine rc_iconst E dX1_init_15 ki_0 ?_
  refine rc_put (k := k0) E (C := RX1) (T := TX1) (N := 9) (j := 2) (fs := [.int (0 : Int32), .int (0 : Int32), .int 0, .int 0, .int 0, .int 0, .int 0, .null, .int 0]) (ci := 0) (by omega) hA0 hC0 rfl iT_1 tyX1 tyX1_ok nmX1 (by decide) fl_X1_18 rfl rfl (tyX1_ok 2 (by decide)) rfl rfl (Nat.le_of_ble_eq_true rfl) dX1_init_16 (fun ct3 f1 f2 => ?_)
  have hC0 : ct3 k0 = .inr (0, [.int (0 : Int32), .int (0 : Int32), .int (0 : Int32), .int 0, .int 0, .int 0, .int 0, .null, .int 0]) := f1
  have hfr : ∀ i, i < k0 → ct3 i = ct0 i := fun i hi => (f2 i (by omega)).trans (hfr i hi)
  refine rc_aload_n E dX1_init_19 rfl 0 rfl ?_
  refine rc_iconst E dX1_init_20 ki_0 ?_
  refine rc_put (k := k0) E (C := RX1) (T := TX1) (N := 9) (j := 3) (fs := [.int (0 : Int32), .int (0 : Int32), .int (0 : Int32), .int 0, .int 0, .int 0, .int 0, .null, .int 0]) (ci := 0) (by omega) hA0 hC0 rfl iT_1 tyX1 tyX1_ok nmX1 (by decide) fl_X1_21 rfl rfl (tyX1_ok 3 (by decide)) rfl rfl (Nat.le_of_ble_eq_true rfl) dX1_init_21 (fun ct4 f1 f2 => ?_)
  have hC0 : ct4 k0 = .inr (0, [.int (0 : Int32), .int (0 : Int32), .int (0 : Int32), .int (0 : Int32), .int 0, .int 0, .int 0, .null, .int 0]) := f1
  have hfr : ∀ i, i < k0 → ct4 i = ct0 i := fun i hi => (f2 i (by omega)).trans (hfr i hi)
  refine rc_aload_n E dX1_init_24 rfl 0 rfl ?_
  refine rc_iconst E dX1_init_25 ki_0 ?_
  refine rc_put (k := k0) E (C := RX1) (T := TX1) (N := 9) (j := 4) (fs := [.int (0 : Int32), .int (0 : Int32), .int (0 : Int32), .int (0 : Int32), .int 0, .int 0, .int 0, .null, .int 0]) (ci := 0) (by omega) hA0 hC0 rfl iT_1 tyX1 tyX1_ok nmX1 (by decide) fl_X1_24 rfl rfl (tyX1_ok 4 (by decide)) rfl rfl (Nat.le_of_ble_eq_true rfl) dX1_init_26 (fun ct5 f1 f2 => ?_)
  have hC0 : ct5 k0 = .inr (0, [.int (0 : Int32), .int (0 : Int32), .int (0 : Int32), .int (0 : Int32), .int (0 : Int32), .int 0, .int 0, .null, .int 0]) := f1
  have hfr : ∀ i, i < k0 → ct5 i = ct0 i := fun i hi => (f2 i (by omega)).trans (hfr i hi)
  refine rc_aload_n E dX1_init_29 rfl 0 rfl ?_
  refine rc_iconst E dX1_init_30 ki_0 ?_
  refine rc_put (k := k0) E (C := RX1) (T := TX1) (N := 9) (j := 5) (fs := [.int (0 : Int32), .int (0 : Int32), .int (0 : Int32), .int (0 : Int32), .int (0 : Int32), .int 0, .int 0, .null, .int 0]) (ci := 0) (by omega) hA0 hC0 rfl iT_1 tyX1 tyX1_ok nmX1 (by decide) fl_X1_27 rfl rfl (tyX1_ok 5 (by decide)) rfl rfl (Nat.le_of_ble_eq_true rfl) dX1_init_31 (fun ct6 f1 f2 => ?_)
  have hC0 : ct6 k0 = .inr (0, [.int (0 : Int32), .int (0 : Int32), .int (0 : Int32), .int (0 : Int32), .int (0 : Int32), .int (0 : Int32), .int 0, .null, .int 0]) := f1
  have hfr : ∀ i, i < k0 → ct6 i = ct0 i := fun i hi => (f2 i (by omega)).trans (hfr i hi)
  refine rc_aload_n E dX1_init_34 rfl 0 rfl ?_
  refine rc_iconst E dX1_init_35 ki_0 ?_
  refine rc_put (k := k0) E (C := RX1) (T := TX1) (N := 9) (j := 6) (fs := [.int (0 : Int32), .int (0 : Int32), .int (0 : Int32), .int (0 : Int32), .int (0 : Int32), .int (0 : Int32), .int 0, .null, .int 0]) (ci := 0) (by omega) hA0 hC0 rfl iT_1 tyX1 tyX1_ok nmX1 (by decide) fl_X1_30 rfl rfl (tyX1_ok 6 (by decide)) rfl rfl (Nat.le_of_ble_eq_true rfl) dX1_init_36 (fun ct7 f1 f2 => ?_)
  have hC0 : ct7 k0 = .inr (0, [.int (0 : Int32), .int (0 : Int32), .int (0 : Int32), .int (0 : Int32), .int (0 : Int32), .int (0 : Int32), .int (0 : Int32), .null, .int 0]) := f1
  have hfr : ∀ i, i < k0 → ct7 i = ct0 i := fun i hi => (f2 i (by omega)).trans (hfr i hi)
  refine rc_aload_n E dX1_init_39 rfl 0 rfl ?_
  refine rc_iconst E dX1_init_40 ki_4 ?_
  refine rc_newa_int (N' := 4) E (by decide) rfl (Nat.le_of_ble_eq_true rfl) ⟨Nat.le_of_ble_eq_true rfl, Nat.le_of_ble_eq_true rfl⟩ dX1_init_41 (fun a1 ad8 ct8 f0 f1 f2 f3 => ?_)
  have hA1 : ad8 (k0 + 1) = a1 := f0
  have hC1 : ct8 (k0 + 1) = .inl (tc 1, 4, .inl (fun _ => 0)) := f2
  have hA0 := (f1 _ (by omega)).trans hA0
  have hku : ∀ i, i ≤ k0 ∨ 1000 ≤ i → ad8 i = ad0 i := fun i hi => (f1 i (by omega)).trans (hku i hi)
  have hC0 := (f3 _ (by omega)).trans hC0
  have hfr : ∀ i, i < k0 → ct8 i = ct0 i := fun i hi => (f3 i (by omega)).trans (hfr i hi)
  refine rc_putF (k := k0) E (C := RX1) (T := TX1) (N := 9) (j := 7) (fs := [.int (0 : Int32), .int (0 : Int32), .int (0 : Int32), .int (0 : Int32), .int (0 : Int32), .int (0 : Int32), .int (0 : Int32), .null, .int 0]) (ci := 0) (by omega) hA0 hC0 rfl iT_1 tyX1 tyX1_ok nmX1 (by decide) fl_X1_33 rfl rfl rfl (tyX1_ok 7 (by decide)) rfl rfl (Nat.le_of_ble_eq_true rfl) dX1_init_43 (fun ct9 f1 f2 => ?_)
  have hC0 : ct9 k0 = .inr (0, [.int (0 : Int32), .int (0 : Int32), .int (0 : Int32), .int (0 : Int32), .int (0 : Int32), .int (0 : Int32), .int (0 : Int32), .ref a1, .int 0]) := f1
  have hC1 := (f2 _ (by omega)).trans hC1
  have hfr : ∀ i, i < k0 → ct9 i = ct0 i := fun i hi => (f2 i (by omega)).trans (hfr i hi)
  refine rc_aload_n E dX1_init_46 rfl 0 rfl ?_
  refine rc_iconst E dX1_init_47 ki_0 ?_
  refine rc_put (k := k0) E (C := RX1) (T := TX1) (N := 9) (j := 8) (fs := [.int (0 : Int32), .int (0 : Int32), .int (0 : Int32), .int (0 : Int32), .int (0 : Int32), .int (0 : Int32), .int (0 : Int32), .ref a1, .int 0]) (ci := 0) (by omega) hA0 hC0 rfl iT_1 tyX1 tyX1_ok nmX1 (by decide) fl_X1_37 rfl rfl (tyX1_ok 8 (by decide)) rfl rfl (Nat.le_of_ble_eq_true rfl) dX1_init_48 (fun ct10 f1 f2 => ?_)
  have hC0 : ct10 k0 = .inr (0, [.int (0 : Int32), .int (0 : Int32), .int (0 : Int32), .int (0 : Int32), .int (0 : Int32), .int (0 : Int32), .int (0 : Int32), .ref a1, .int (0 : Int32)]) := f1
  have hC1 := (f2 _ (by omega)).trans hC1
  have hfr : ∀ i, i < k0 → ct10 i = ct0 i := fun i hi => (f2 i (by omega)).trans (hfr i hi)
  refine rc_vret (k0 := k0) (x := 1) (ct0 := ct0) (F := FX1) E hr (by omega) hku hfr (fun r hr9 => ?_) ⟨Nat.le_of_ble_eq_true rfl, Nat.le_of_ble_eq_true rfl⟩ dX1_init_51
  rcases (show r = 0 ∨ r = 1 by omega) with rfl | rfl
  · exact hC0.trans (by rw [← hA1]; rfl)
  · exact hC1
set_option maxRecDepth 100000 in
set_option maxHeartbeats 4000000 in
theorem c_X10_init : MC yX10_init cX10_init 1 1 1 500 1 (.inr (7, [.null, .int 0, .int 0, .int 0, .int 0, .int 0, .int 0, .int 0])) FX10 := by
  refine MC_of RX10 rfl (by decide +kernel) rfl (Nat.le_of_ble_eq_true rfl) (fun p l e s m below meth c D tc A ad0 ct0 k0 hfr0 hb E hr => ?_)
  have hA0 : ad0 k0 = ad0 k0 := rfl
  have hC0 := hfr0
  have hku : ∀ i, i ≤ k0 ∨ 1000 ≤ i → ad0 i = ad0 i := fun _ _ => rfl
  have hfr : ∀ i, i < k0 → ct0 i = ct0 i := fun _ _ => rfl
  refine rc_aload_n E dX10_init_0 rfl 0 rfl ?_
  refine rc_obj E mo_X10_3 ⟨Nat.le_of_ble_eq_true rfl, Nat.le_of_ble_eq_true rfl⟩ dX10_init_1 ?_
  refine rc_aload_n E dX10_init_4 rfl 0 rfl ?_
  refine rc_sipush E dX10_init_5 ks_500 ?_
  refine rc_newa_byte (N' := 500) E (by decide) rfl (Nat.le_of_ble_eq_true rfl) ⟨Nat.le_of_ble_eq_true rfl, Nat.le_of_ble_eq_true rfl⟩ dX10_init_8 (fun a1 ad1 ct1 f0 f1 f2 f3 => ?_)
  have hA1 : ad1 (k0 + 1) = a1 := f0
  have hC1 : ct1 (k0 + 1) = .inl (tc 0, 500, .inl (fun _ => 0)) := f2
  have hA0 := (f1 _ (by omega)).trans hA0
  have hku : ∀ i, i ≤ k0 ∨ 1000 ≤ i → ad1 i = ad0 i := fun i hi => (f1 i (by omega)).trans (hku i hi)
  have hC0 := (f3 _ (by omega)).trans hC0
  have hfr : ∀ i, i < k0 → ct1 i = ct0 i := fun i hi => (f3 i (by omega)).trans (hfr i hi)
  refine rc_putF (k := k0) E (C := RX10) (T := TX10) (N := 8) (j := 0) (fs := [.null, .int 0, .int 0, .int 0, .int 0, .int 0, .int 0, .int 0]) (ci := 7) (by omega) hA0 hC0 rfl iT_10 tyX10 tyX10_ok nmX10 (by decide) fl_X10_9 rfl rfl rfl (tyX10_ok 0 (by decide)) rfl rfl (Nat.le_of_ble_eq_true rfl) dX10_init_10 (fun ct2 f1 f2 => ?_)
  have hC0 : ct2 k0 = .inr (7, [.ref a1, .int 0, .int 0, .int 0, .int 0, .int 0, .int 0, .int 0]) := f1
  have hC1 := (f2 _ (by omega)).trans hC1
  have hfr : ∀ i, i < k0 → ct2 i = ct0 i := fun i hi => (f2 i (by omega)).trans (hfr i hi)
  refine rc_aload_n E dX10_init_13 rfl 0 rfl ?_
  refine rc_iconst E dX10_init_14 ki_0 ?_
  refine rc_put (k := k0) E (C := RX10) (T := TX10) (N := 8) (j := 1) (fs := [.ref a1, .int 0, .int 0, .int 0, .int 0, .int 0, .int 0, .int 0]) (ci := 7) (by omega) hA0 hC0 rfl iT_10 tyX10 tyX10_ok nmX10 (by decide) fl_X10_15 rfl rfl (tyX10_ok 1 (by decide)) rfl rfl (Nat.le_of_ble_eq_true rfl) dX10_init_15 (fun ct3 f1 f2 => ?_)
  have hC0 : ct3 k0 = .inr (7, [.ref a1, .int (0 : Int32), .int 0, .int 0, .int 0, .int 0, .int 0, .int 0]) := f1
  have hC1 := (f2 _ (by omega)).trans hC1
  have hfr : ∀ i, i < k0 → ct3 i = ct0 i := fun i hi => (f2 i (by omega)).trans (hfr i hi)
  refine rc_aload_n E dX10_init_18 rfl 0 rfl ?_
  refine rc_iconst E dX10_init_19 ki_0 ?_
  refine rc_put (k := k0) E (C := RX10) (T := TX10) (N := 8) (j := 2) (fs := [.ref a1, .int (0 : Int32), .int 0, .int 0, .int 0, .int 0, .int 0, .int 0]) (ci := 7) (by omega) hA0 hC0 rfl iT_10 tyX10 tyX10_ok nmX10 (by decide) fl_X10_19 rfl rfl (tyX10_ok 2 (by decide)) rfl rfl (Nat.le_of_ble_eq_true rfl) dX10_init_20 (fun ct4 f1 f2 => ?_)
  have hC0 : ct4 k0 = .inr (7, [.ref a1, .int (0 : Int32), .int (0 : Int32), .int 0, .int 0, .int 0, .int 0, .int 0]) := f1
  have hC1 := (f2 _ (by omega)).trans hC1
  have hfr : ∀ i, i < k0 → ct4 i = ct0 i := fun i hi => (f2 i (by omega)).trans (hfr i hi)
  refine rc_aload_n E dX10_init_23 rfl 0 rfl ?_
  refine rc_iconst E dX10_init_24 ki_0 ?_
  refine rc_put (k := k0) E (C := RX10) (T := TX10) (N := 8) (j := 3) (fs := [.ref a1, .int (0 : Int32), .int (0 : Int32), .int 0, .int 0, .int 0, .int 0, .int 0]) (ci := 7) (by omega) hA0 hC0 rfl iT_10 tyX10 tyX10_ok nmX10 (by decide) fl_X10_22 rfl rfl (tyX10_ok 3 (by decide)) rfl rfl (Nat.le_of_ble_eq_true rfl) dX10_init_25 (fun ct5 f1 f2 => ?_)
  have hC0 : ct5 k0 = .inr (7, [.ref a1, .int (0 : Int32), .int (0 : Int32), .int (0 : Int32), .int 0, .int 0, .int 0, .int 0]) := f1
  have hC1 := (f2 _ (by omega)).trans hC1
  have hfr : ∀ i, i < k0 → ct5 i = ct0 i := fun i hi => (f2 i (by omega)).trans (hfr i hi)
  refine rc_aload_n E dX10_init_28 rfl 0 rfl ?_
  refine rc_iconst E dX10_init_29 ki_0 ?_
  refine rc_put (k := k0) E (C := RX10) (T := TX10) (N := 8) (j := 4) (fs := [.ref a1, .int (0 : Int32), .int (0 : Int32), .int (0 : Int32), .int 0, .int 0, .int 0, .int 0]) (ci := 7) (by omega) hA0 hC0 rfl iT_10 tyX10 tyX10_ok nmX10 (by decide) fl_X10_25 rfl rfl (tyX10_ok 4 (by decide)) rfl rfl (Nat.le_of_ble_eq_true rfl) dX10_init_30 (fun ct6 f1 f2 => ?_)
  have hC0 : ct6 k0 = .inr (7, [.ref a1, .int (0 : Int32), .int (0 : Int32), .int (0 : Int32), .int (0 : Int32), .int 0, .int 0, .int 0]) := f1
  have hC1 := (f2 _ (by omega)).trans hC1
  have hfr : ∀ i, i < k0 → ct6 i = ct0 i := fun i hi => (f2 i (by omega)).trans (hfr i hi)
  refine rc_aload_n E dX10_init_33 rfl 0 rfl ?_
  refine rc_iconst E dX10_init_34 ki_0 ?_
  refine rc_put (k := k0) E (C := RX10) (T := TX10) (N := 8) (j := 5) (fs := [.ref a1, .int (0 : Int32), .int (0 : Int32), .int (0 : Int32), .int (0 : Int32), .int 0, .int 0, .int 0]) (ci := 7) (by omega) hA0 hC0 rfl iT_10 tyX10 tyX10_ok nmX10 (by decide) fl_X10_28 rfl rfl (tyX10_ok 5 (by decide)) rfl rfl (Nat.le_of_ble_eq_true rfl) dX10_init_35 (fun ct7 f1 f2 => ?_)
  have hC0 : ct7 k0 = .inr (7, [.ref a1, .int (0 : Int32), .int (0 : Int32), .int (0 : Int32), .int (0 : Int32), .int (0 : Int32), .int 0, .int 0]) := f1
  have hC1 := (f2 _ (by omega)).trans hC1
  have hfr : ∀ i, i < k0 → ct7 i = ct0 i := fun i hi => (f2 i (by omega)).trans (hfr i hi)
  refine rc_aload_n E dX10_init_38 rfl 0 rfl ?_
  refine rc_iconst E dX10_init_39 ki_0 ?_
  refine rc_put (k := k0) E (C := RX10) (T := TX10) (N := 8) (j := 6) (fs := [.ref a1, .int (0 : Int32), .int (0 : Int32), .int (0 : Int32), .int (0 : Int32), .int (0 : Int32), .int 0, .int 0]) (ci := 7) (by omega) hA0 hC0 rfl iT_10 tyX10 tyX10_ok nmX10 (by decide) fl_X10_31 rfl rfl (tyX10_ok 6 (by decide)) rfl rfl (Nat.le_of_ble_eq_true rfl) dX10_init_40 (fun ct8 f1 f2 => ?_)
  have hC0 : ct8 k0 = .inr (7, [.ref a1, .int (0 : Int32), .int (0 : Int32), .int (0 : Int32), .int (0 : Int32), .int (0 : Int32), .int (0 : Int32), .int 0]) := f1
  have hC1 := (f2 _ (by omega)).trans hC1
  have hfr : ∀ i, i < k0 → ct8 i = ct0 i := fun i hi => (f2 i (by omega)).trans (hfr i hi)
  refine rc_aload_n E dX10_init_43 rfl 0 rfl ?_
  refine rc_iconst E dX10_init_44 ki_m1 ?_
  refine rc_put (k := k0) E (C := RX10) (T := TX10) (N := 8) (j := 7) (fs := [.ref a1, .int (0 : Int32), .int (0 : Int32), .int (0 : Int32), .int (0 : Int32), .int (0 : Int32), .int (0 : Int32), .int 0]) (ci := 7) (by omega) hA0 hC0 rfl iT_10 tyX10 tyX10_ok nmX10 (by decide) fl_X10_34 rfl rfl (tyX10_ok 7 (by decide)) rfl rfl (Nat.le_of_ble_eq_true rfl) dX10_init_45 (fun ct9 f1 f2 => ?_)
  have hC0 : ct9 k0 = .inr (7, [.ref a1, .int (0 : Int32), .int (0 : Int32), .int (0 : Int32), .int (0 : Int32), .int (0 : Int32), .int (0 : Int32), .int (-1 : Int32)]) := f1
  have hC1 := (f2 _ (by omega)).trans hC1
  have hfr : ∀ i, i < k0 → ct9 i = ct0 i := fun i hi => (f2 i (by omega)).trans (hfr i hi)
  refine rc_vret (k0 := k0) (x := 1) (ct0 := ct0) (F := FX10) E hr (by omega) hku hfr (fun r hr9 => ?_) ⟨Nat.le_of_ble_eq_true rfl, Nat.le_of_ble_eq_true rfl⟩ dX10_init_48
  rcases (show r = 0 ∨ r = 1 by omega) with rfl | rfl
  · exact hC0.trans (by rw [← hA1]; rfl)
  · exact hC1
