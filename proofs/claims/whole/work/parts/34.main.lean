theorem kc_X12_16 : Cond.classLink RX12 16 "NoodleCanal$Script" ∈ TS := TS_of (tin_1 _ (List.mem_of_getElem? (i := 72) (by decide +kernel))) (by decide +kernel)
theorem kc_X12_23 : Cond.classLink RX12 23 "NoodleCanal$History" ∈ TS := TS_of (tin_1 _ (List.mem_of_getElem? (i := 122) (by decide +kernel))) (by decide +kernel)
theorem kc_X12_30 : Cond.classLink RX12 30 "NoodleCanal$Canal" ∈ TS := TS_of (tin_2 _ (List.mem_of_getElem? (i := 87) (by decide +kernel))) (by decide +kernel)
theorem kc_X12_7 : Cond.classLink RX12 7 "NoodleCanal$TextInput" ∈ TS := TS_of (tin_1 _ (List.mem_of_getElem? (i := 36) (by decide +kernel))) (by decide +kernel)
theorem kc_X13_44 : Cond.classLink RX13 44 "java/lang/String" ∈ TS := TS_of (tin_6 _ (List.mem_of_getElem? (i := 221) (by decide +kernel))) (by decide +kernel)
theorem kb_11 : (Int8.ofInt 11).toInt32 = 11 := by decide +kernel
theorem kb_14 : (Int8.ofInt 14).toInt32 = 14 := by decide +kernel
theorem kb_28 : (Int8.ofInt 28).toInt32 = 28 := by decide +kernel
theorem kb_31 : (Int8.ofInt 31).toInt32 = 31 := by decide +kernel
theorem kb_100 : (Int8.ofInt 100).toInt32 = 100 := by decide +kernel
theorem ks_3016 : (Int16.ofInt 3016).toInt32 = 3016 := by decide +kernel
theorem FXc_dummy : True := trivial
def rMain (j : Nat) : Int32 := if j = 5 then 9 else if j = 6 then 10 else 0
/-- the class's numbers when its fields are made -/
def mMain (k : Nat) : Nat → Int32 := if k = 0 then rMain else if k = 1 then rT else if k < 5 then r0 else if k < 25 then rCm else if k < 27 then r0 else if k < 698 then mC ((k - 27) % 61) else r0
def rMod (j : Nat) : Int32 := if j = 22 then -1 else 0
def mMod (M : Nat → Nat → Int32) (k : Nat) : Nat → Int32 := if k < 699 then M k else if k = 699 then rMod else r0
/-- a canal's block in the world -/
theorem eqv_FX2 {tc : Nat → ClassId} {ad ad' : Nat → Nat} {b c r : Nat} (hb : b = 27 + 61 * c) (hc : c < 11) (hr : r ≤ 60) (h : ∀ i, i < 711 ∨ 2000 ≤ i → ad' i = ad i) {R : Nat → Int32} (hR : R = mC r) : Eqv (FX2 tc ad b r) (cel tc ad' (b + r) R) := by
  subst hR
  rw [cel_mid tc ad' (by omega) (by omega), show (b + r - 27) % 61 = r by omega, ← FX2_congr tc ad ad' b r hr (fun k hk => h k (by omega))]
  unfold FX2
  by_cases h1 : r = 1
  · subst h1
    rw [if_pos rfl]
    refine Or.inr ⟨_, _, _, _, rfl, rfl, fun j hj => ?_⟩
    rw [show tr 15 (fun j => ad' (b + 6 + j)) j = some (ad' (b + 6 + j)) from if_pos hj, show b + 6 + j = b + 1 + 5 + j by omega]
  rw [if_neg h1]
  by_cases h4 : r = 4
  · subst h4
    rw [if_pos rfl]
    refine Or.inr ⟨_, _, _, _, rfl, rfl, fun j hj => ?_⟩
    rw [show tr 5 (fun j => ad' (b + 21 + 2 * j)) j = some (ad' (b + 21 + 2 * j)) from if_pos hj, show b + 21 + 2 * j = b + 4 + 17 + 2 * j by omega]
  rw [if_neg h4]
  by_cases h5 : r = 5
  · subst h5
    rw [if_pos rfl]
    refine Or.inr ⟨_, _, _, _, rfl, rfl, fun j hj => ?_⟩
    rw [show tr 30 (fun j => ad' (b + 31 + j)) j = some (ad' (b + 31 + j)) from if_pos hj, show b + 31 + j = b + 5 + 26 + j by omega]
  rw [if_neg h5]
  exact Eqv.rf _
def f_X12_tail (M : TM) (K : TM → Prop) : Prop := f_X10_appendSigns 13 M (fun M1 => f_J0_length_8abf5 13 M1 (fun r3 M2 => f_X10_begin r3 M2 (fun M4 => vp_in (M4 0 5) 11 ∧ f_X3_parse (27 + 61 * (M4 0 5).toNatClampNeg) M4 (fun M6 => f_X10_empty M6 (fun M7 => K M7)))))
set_option maxRecDepth 100000 in
set_option maxHeartbeats 8000000 in
theorem c_X12_init (K : TM → Prop) (h : f_X12_tail mMain K) : MN yX12_init cX12_init 1 7 698 5599 0 699 (.inr (8, [.null, .null, .null, .null, .int 0, .null, .null, .null, .int 0])) (fun _ _ => 0) K := by
  refine MN_of RX12 rfl (by decide +kernel) rfl (Nat.le_of_ble_eq_true rfl) (fun p l e s m below meth c D tc ad0 ct0 _ _ hfr0 E hr => ?_)
  have hA0 : ad0 0 = ad0 0 := rfl
  have hC0 := hfr0
  have hku : ∀ i, i ≤ 0 ∨ 1000 ≤ i → ad0 i = ad0 i := fun _ _ => rfl
  have hfr : ∀ i, i < 0 → ct0 i = ct0 i := fun _ _ => rfl
  refine rc_aload_n E dX12_init_0 rfl 0 rfl ?_
  refine rc_obj E mo_X12_1 ⟨Nat.le_of_ble_eq_true rfl, Nat.le_of_ble_eq_true rfl⟩ dX12_init_1 ?_
  refine rc_aload_n E dX12_init_4 rfl 0 rfl ?_
  refine rc_new (ci := 7) (fs := [.null, .int 0, .int 0, .int 0, .int 0, .int 0, .int 0, .int 0]) (N := 8) E rfl iT_10 tyX10 tyX10_ok kc_X12_7 ki_X10 kn_X10 (fun j hj => by rcases (show j = 0 ∨ j = 1 ∨ j = 2 ∨ j = 3 ∨ j = 4 ∨ j = 5 ∨ j = 6 ∨ j = 7 by omega) with rfl | rfl | rfl | rfl | rfl | rfl | rfl | rfl <;> rfl) ⟨Nat.le_of_ble_eq_true rfl, Nat.le_of_ble_eq_true rfl⟩ dX12_init_5 (fun a1 ad1 ct1 f0 f1 f2 f3 => ?_)
  have hA1 : ad1 1 = a1 := f0
  have hC1 : ct1 1 = .inr (7, [.null, .int 0, .int 0, .int 0, .int 0, .int 0, .int 0, .int 0]) := f2
  have hA0 := (f1 _ (by omega)).trans hA0
  have hku : ∀ i, i ≤ 0 ∨ 1000 ≤ i → ad1 i = ad0 i := fun i hi => (f1 i (by omega)).trans (hku i hi)
  have hC0 := (f3 _ (by omega)).trans hC0
  have hfr : ∀ i, i < 0 → ct1 i = ct0 i := fun i hi => (f3 i (by omega)).trans (hfr i hi)
  refine rc_dup E dX12_init_8 rfl ?_
  refine rc_initN (host := "NoodleCanal") (k0 := 1) E (fun i hi => hku i (Or.inr hi)) c_X10_init cd_X10_init cn_X10_init (E.2.2.2.2.2.2.2.1.2.2.2.2.1 ("NoodleCanal", 9, ⟨"NoodleCanal$TextInput", "<init>", "()V"⟩) (by decide +kernel)) rfl hA1 hC1 (by decide) (by decide) (Nat.le_of_ble_eq_true rfl) ⟨Nat.le_of_ble_eq_true rfl, Nat.le_of_ble_eq_true rfl⟩ ⟨Nat.le_of_ble_eq_true rfl, Nat.le_of_ble_eq_true rfl⟩ dX12_init_9 (fun ad2 ct2 g1 g2 g3 => ?_)
  have hA0 := (g1 0 (by omega)).trans hA0
  have hA1 := (g1 1 (by omega)).trans hA1
  have hC0 := (g2 0 (by omega)).trans hC0
  have hku : ∀ i, i ≤ 0 ∨ 1000 ≤ i → ad2 i = ad0 i := fun i hi => (g1 i (by omega)).trans (hku i hi)
  have hfr : ∀ i, i < 0 → ct2 i = ct0 i := fun i hi => (g2 i (by omega)).trans (hfr i hi)
  have hR1 : ∀ r, r ≤ 1 → ct2 (1 + r) = FX10 tc ad2 1 r := g3
  refine rc_putF (k := 0) E (C := RX12) (T := TX12) (N := 9) (j := 0) (fs := [.null, .null, .null, .null, .int 0, .null, .null, .null, .int 0]) (ci := 8) (by omega) hA0 hC0 rfl iT_12 tyX12 tyX12_ok nmX12 (by decide) fl_X12_10 rfl rfl rfl (tyX12_ok 0 (by decide)) rfl rfl (Nat.le_of_ble_eq_true rfl) dX12_init_12 (fun ct3 f1 f2 => ?_)
  have hC0 : ct3 0 = .inr (8, [.ref a1, .null, .null, .null, .int 0, .null, .null, .null, .int 0]) := f1
  have hfr : ∀ i, i < 0 → ct3 i = ct0 i := fun i hi => (f2 i (by omega)).trans (hfr i hi)
  have hR1 := fun r (hr : r ≤ 1) => (f2 (1 + r) (by omega)).trans (hR1 r hr)
  refine rc_aload_n E dX12_init_15 rfl 0 rfl ?_
  refine rc_new (ci := 5) (fs := [.null, .int 0, .int 0]) (N := 3) E rfl iT_8 tyX8 tyX8_ok kc_X12_16 ki_X8 kn_X8 (fun j hj => by rcases (show j = 0 ∨ j = 1 ∨ j = 2 by omega) with rfl | rfl | rfl <;> rfl) ⟨Nat.le_of_ble_eq_true rfl, Nat.le_of_ble_eq_true rfl⟩ dX12_init_16 (fun a3 ad4 ct4 f0 f1 f2 f3 => ?_)
  have hA3 : ad4 3 = a3 := f0
  have hC3 : ct4 3 = .inr (5, [.null, .int 0, .int 0]) := f2
  have hA0 := (f1 _ (by omega)).trans hA0
  have hA1 := (f1 _ (by omega)).trans hA1
  have hku : ∀ i, i ≤ 0 ∨ 1000 ≤ i → ad4 i = ad0 i := fun i hi => (f1 i (by omega)).trans (hku i hi)
  have hC0 := (f3 _ (by omega)).trans hC0
  have hfr : ∀ i, i < 0 → ct4 i = ct0 i := fun i hi => (f3 i (by omega)).trans (hfr i hi)
  have hR1 := fun r (hr : r ≤ 1) => (f3 (1 + r) (by omega)).trans (hR1 r hr)
  have hR1 := fun r (hr : r ≤ 1) => (hR1 r hr).trans (FX10_congr tc ad2 ad4 1 r hr (fun k hk => f1 k (by omega))).symm
  refine rc_dup E dX12_init_19 rfl ?_
  refine rc_init (k0 := 3) E (fun i hi => hku i (Or.inr hi)) c_X8_init cd_X8_init cn_X8_init mi_X12_18 rfl hA3 hC3 (by decide) (by decide) (Nat.le_of_ble_eq_true rfl) ⟨Nat.le_of_ble_eq_true rfl, Nat.le_of_ble_eq_true rfl⟩ ⟨Nat.le_of_ble_eq_true rfl, Nat.le_of_ble_eq_true rfl⟩ dX12_init_20 (fun ad5 ct5 g1 g2 g3 => ?_)
  have hA0 := (g1 0 (by omega)).trans hA0
  have hA1 := (g1 1 (by omega)).trans hA1
  have hA3 := (g1 3 (by omega)).trans hA3
  have hC0 := (g2 0 (by omega)).trans hC0
  have hR1 := fun r (hr : r ≤ 1) => (g2 (1 + r) (by omega)).trans ((hR1 r hr).trans (FX10_congr tc ad4 ad5 1 r hr (fun k hk => g1 k (by omega))).symm)
  have hku : ∀ i, i ≤ 0 ∨ 1000 ≤ i → ad5 i = ad0 i := fun i hi => (g1 i (by omega)).trans (hku i hi)
  have hfr : ∀ i, i < 0 → ct5 i = ct0 i := fun i hi => (g2 i (by omega)).trans (hfr i hi)
  have hR3 : ∀ r, r ≤ 21 → ct5 (3 + r) = FX8 tc ad5 3 r := g3
  refine rc_putF (k := 0) E (C := RX12) (T := TX12) (N := 9) (j := 1) (fs := [.ref a1, .null, .null, .null, .int 0, .null, .null, .null, .int 0]) (ci := 8) (by omega) hA0 hC0 rfl iT_12 tyX12 tyX12_ok nmX12 (by decide) fl_X12_19 rfl rfl rfl (tyX12_ok 1 (by decide)) rfl rfl (Nat.le_of_ble_eq_true rfl) dX12_init_23 (fun ct6 f1 f2 => ?_)
  have hC0 : ct6 0 = .inr (8, [.ref a1, .ref a3, .null, .null, .int 0, .null, .null, .null, .int 0]) := f1
  have hfr : ∀ i, i < 0 → ct6 i = ct0 i := fun i hi => (f2 i (by omega)).trans (hfr i hi)
  have hR1 := fun r (hr : r ≤ 1) => (f2 (1 + r) (by omega)).trans (hR1 r hr)
  have hR3 := fun r (hr : r ≤ 21) => (f2 (3 + r) (by omega)).trans (hR3 r hr)
  refine rc_aload_n E dX12_init_26 rfl 0 rfl ?_
  refine rc_new (ci := 3) (fs := [.null, .int 0, .int 0]) (N := 3) E rfl iT_5 tyX5 tyX5_ok kc_X12_23 ki_X5 kn_X5 (fun j hj => by rcases (show j = 0 ∨ j = 1 ∨ j = 2 by omega) with rfl | rfl | rfl <;> rfl) ⟨Nat.le_of_ble_eq_true rfl, Nat.le_of_ble_eq_true rfl⟩ dX12_init_27 (fun a25 ad7 ct7 f0 f1 f2 f3 => ?_)
  have hA25 : ad7 25 = a25 := f0
  have hC25 : ct7 25 = .inr (3, [.null, .int 0, .int 0]) := f2
  have hA0 := (f1 _ (by omega)).trans hA0
  have hA1 := (f1 _ (by omega)).trans hA1
  have hA3 := (f1 _ (by omega)).trans hA3
  have hku : ∀ i, i ≤ 0 ∨ 1000 ≤ i → ad7 i = ad0 i := fun i hi => (f1 i (by omega)).trans (hku i hi)
  have hC0 := (f3 _ (by omega)).trans hC0
  have hfr : ∀ i, i < 0 → ct7 i = ct0 i := fun i hi => (f3 i (by omega)).trans (hfr i hi)
  have hR1 := fun r (hr : r ≤ 1) => (f3 (1 + r) (by omega)).trans (hR1 r hr)
  have hR3 := fun r (hr : r ≤ 21) => (f3 (3 + r) (by omega)).trans (hR3 r hr)
  have hR1 := fun r (hr : r ≤ 1) => (hR1 r hr).trans (FX10_congr tc ad5 ad7 1 r hr (fun k hk => f1 k (by omega))).symm
  have hR3 := fun r (hr : r ≤ 21) => (hR3 r hr).trans (FX8_congr tc ad5 ad7 3 r hr (fun k hk => f1 k (by omega))).symm
  refine rc_dup E dX12_init_30 rfl ?_
  refine rc_init (k0 := 25) E (fun i hi => hku i (Or.inr hi)) c_X5_init cd_X5_init cn_X5_init mi_X12_25 rfl hA25 hC25 (by decide) (by decide) (Nat.le_of_ble_eq_true rfl) ⟨Nat.le_of_ble_eq_true rfl, Nat.le_of_ble_eq_true rfl⟩ ⟨Nat.le_of_ble_eq_true rfl, Nat.le_of_ble_eq_true rfl⟩ dX12_init_31 (fun ad8 ct8 g1 g2 g3 => ?_)
  have hA0 := (g1 0 (by omega)).trans hA0
  have hA1 := (g1 1 (by omega)).trans hA1
  have hA3 := (g1 3 (by omega)).trans hA3
  have hA25 := (g1 25 (by omega)).trans hA25
  have hC0 := (g2 0 (by omega)).trans hC0
  have hR1 := fun r (hr : r ≤ 1) => (g2 (1 + r) (by omega)).trans ((hR1 r hr).trans (FX10_congr tc ad7 ad8 1 r hr (fun k hk => g1 k (by omega))).symm)
  have hR3 := fun r (hr : r ≤ 21) => (g2 (3 + r) (by omega)).trans ((hR3 r hr).trans (FX8_congr tc ad7 ad8 3 r hr (fun k hk => g1 k (by omega))).symm)
  have hku : ∀ i, i ≤ 0 ∨ 1000 ≤ i → ad8 i = ad0 i := fun i hi => (g1 i (by omega)).trans (hku i hi)
  have hfr : ∀ i, i < 0 → ct8 i = ct0 i := fun i hi => (g2 i (by omega)).trans (hfr i hi)
  have hR25 : ∀ r, r ≤ 489 → ct8 (25 + r) = FX5 tc ad8 25 r := g3
  refine rc_putF (k := 0) E (C := RX12) (T := TX12) (N := 9) (j := 2) (fs := [.ref a1, .ref a3, .null, .null, .int 0, .null, .null, .null, .int 0]) (ci := 8) (by omega) hA0 hC0 rfl iT_12 tyX12 tyX12_ok nmX12 (by decide) fl_X12_26 rfl rfl rfl (tyX12_ok 2 (by decide)) rfl rfl (Nat.le_of_ble_eq_true rfl) dX12_init_34 (fun ct9 f1 f2 => ?_)
  have hC0 : ct9 0 = .inr (8, [.ref a1, .ref a3, .ref a25, .null, .int 0, .null, .null, .null, .int 0]) := f1
  have hfr : ∀ i, i < 0 → ct9 i = ct0 i := fun i hi => (f2 i (by omega)).trans (hfr i hi)
  have hR1 := fun r (hr : r ≤ 1) => (f2 (1 + r) (by omega)).trans (hR1 r hr)
  have hR3 := fun r (hr : r ≤ 21) => (f2 (3 + r) (by omega)).trans (hR3 r hr)
  have hR25 := fun r (hr : r ≤ 489) => (f2 (25 + r) (by omega)).trans (hR25 r hr)
  refine rc_aload_n E dX12_init_37 rfl 0 rfl ?_
  refine rc_new (ci := 1) (fs := [.int 0, .null, .null, .null, .int 0, .null, .int 0, .null, .int 0, .int 0, .int 0, .int 0, .int 0, .int 0]) (N := 14) E rfl iT_2 tyX2 tyX2_ok kc_X12_30 ki_X2 kn_X2 (fun j hj => by rcases (show j = 0 ∨ j = 1 ∨ j = 2 ∨ j = 3 ∨ j = 4 ∨ j = 5 ∨ j = 6 ∨ j = 7 ∨ j = 8 ∨ j = 9 ∨ j = 10 ∨ j = 11 ∨ j = 12 ∨ j = 13 by omega) with rfl | rfl | rfl | rfl | rfl | rfl | rfl | rfl | rfl | rfl | rfl | rfl | rfl | rfl <;> rfl) ⟨Nat.le_of_ble_eq_true rfl, Nat.le_of_ble_eq_true rfl⟩ dX12_init_38 (fun a515 ad10 ct10 f0 f1 f2 f3 => ?_)
  have hA515 : ad10 515 = a515 := f0
  have hC515 : ct10 515 = .inr (1, [.int 0, .null, .null, .null, .int 0, .null, .int 0, .null, .int 0, .int 0, .int 0, .int 0, .int 0, .int 0]) := f2
  have hA0 := (f1 _ (by omega)).trans hA0
  have hA1 := (f1 _ (by omega)).trans hA1
  have hA3 := (f1 _ (by omega)).trans hA3
  have hA25 := (f1 _ (by omega)).trans hA25
  have hku : ∀ i, i ≤ 0 ∨ 1000 ≤ i → ad10 i = ad0 i := fun i hi => (f1 i (by omega)).trans (hku i hi)
  have hC0 := (f3 _ (by omega)).trans hC0
  have hfr : ∀ i, i < 0 → ct10 i = ct0 i := fun i hi => (f3 i (by omega)).trans (hfr i hi)
  have hR1 := fun r (hr : r ≤ 1) => (f3 (1 + r) (by omega)).trans (hR1 r hr)
  have hR3 := fun r (hr : r ≤ 21) => (f3 (3 + r) (by omega)).trans (hR3 r hr)
  have hR25 := fun r (hr : r ≤ 489) => (f3 (25 + r) (by omega)).trans (hR25 r hr)
  have hR1 := fun r (hr : r ≤ 1) => (hR1 r hr).trans (FX10_congr tc ad8 ad10 1 r hr (fun k hk => f1 k (by omega))).symm
  have hR3 := fun r (hr : r ≤ 21) => (hR3 r hr).trans (FX8_congr tc ad8 ad10 3 r hr (fun k hk => f1 k (by omega))).symm
  have hR25 := fun r (hr : r ≤ 489) => (hR25 r hr).trans (FX5_congr tc ad8 ad10 25 r hr (fun k hk => f1 k (by omega))).symm
  refine rc_dup E dX12_init_41 rfl ?_
  refine rc_init (k0 := 515) E (fun i hi => hku i (Or.inr hi)) c_X2_init cd_X2_init cn_X2_init mi_X12_32 rfl hA515 hC515 (by decide) (by decide) (Nat.le_of_ble_eq_true rfl) ⟨Nat.le_of_ble_eq_true rfl, Nat.le_of_ble_eq_true rfl⟩ ⟨Nat.le_of_ble_eq_true rfl, Nat.le_of_ble_eq_true rfl⟩ dX12_init_42 (fun ad11 ct11 g1 g2 g3 => ?_)
  have hA0 := (g1 0 (by omega)).trans hA0
  have hA1 := (g1 1 (by omega)).trans hA1
  have hA3 := (g1 3 (by omega)).trans hA3
  have hA25 := (g1 25 (by omega)).trans hA25
  have hA515 := (g1 515 (by omega)).trans hA515
  have hC0 := (g2 0 (by omega)).trans hC0
  have hR1 := fun r (hr : r ≤ 1) => (g2 (1 + r) (by omega)).trans ((hR1 r hr).trans (FX10_congr tc ad10 ad11 1 r hr (fun k hk => g1 k (by omega))).symm)
  have hR3 := fun r (hr : r ≤ 21) => (g2 (3 + r) (by omega)).trans ((hR3 r hr).trans (FX8_congr tc ad10 ad11 3 r hr (fun k hk => g1 k (by omega))).symm)
  have hR25 := fun r (hr : r ≤ 489) => (g2 (25 + r) (by omega)).trans ((hR25 r hr).trans (FX5_congr tc ad10 ad11 25 r hr (fun k hk => g1 k (by omega))).symm)
  have hku : ∀ i, i ≤ 0 ∨ 1000 ≤ i → ad11 i = ad0 i := fun i hi => (g1 i (by omega)).trans (hku i hi)
  have hfr : ∀ i, i < 0 → ct11 i = ct0 i := fun i hi => (g2 i (by omega)).trans (hfr i hi)
  have hR515 : ∀ r, r ≤ 60 → ct11 (515 + r) = FX2 tc ad11 515 r := g3
  refine rc_putF (k := 0) E (C := RX12) (T := TX12) (N := 9) (j := 3) (fs := [.ref a1, .ref a3, .ref a25, .null, .int 0, .null, .null, .null, .int 0]) (ci := 8) (by omega) hA0 hC0 rfl iT_12 tyX12 tyX12_ok nmX12 (by decide) fl_X12_33 rfl rfl rfl (tyX12_ok 3 (by decide)) rfl rfl (Nat.le_of_ble_eq_true rfl) dX12_init_45 (fun ct12 f1 f2 => ?_)
  have hC0 : ct12 0 = .inr (8, [.ref a1, .ref a3, .ref a25, .ref a515, .int 0, .null, .null, .null, .int 0]) := f1
  have hfr : ∀ i, i < 0 → ct12 i = ct0 i := fun i hi => (f2 i (by omega)).trans (hfr i hi)
  have hR1 := fun r (hr : r ≤ 1) => (f2 (1 + r) (by omega)).trans (hR1 r hr)
  have hR3 := fun r (hr : r ≤ 21) => (f2 (3 + r) (by omega)).trans (hR3 r hr)
  have hR25 := fun r (hr : r ≤ 489) => (f2 (25 + r) (by omega)).trans (hR25 r hr)
  have hR515 := fun r (hr : r ≤ 60) => (f2 (515 + r) (by omega)).trans (hR515 r hr)
  refine rc_aload_n E dX12_init_48 rfl 0 rfl ?_
  refine rc_iconst E dX12_init_49 ki_0 ?_
  refine rc_put (k := 0) E (C := RX12) (T := TX12) (N := 9) (j := 4) (fs := [.ref a1, .ref a3, .ref a25, .ref a515, .int 0, .null, .null, .null, .int 0]) (ci := 8) (by omega) hA0 hC0 rfl iT_12 tyX12 tyX12_ok nmX12 (by decide) fl_X12_37 rfl rfl (tyX12_ok 4 (by decide)) rfl rfl (Nat.le_of_ble_eq_true rfl) dX12_init_50 (fun ct13 f1 f2 => ?_)
  have hC0 : ct13 0 = .inr (8, [.ref a1, .ref a3, .ref a25, .ref a515, .int (0 : Int32), .null, .null, .null, .int 0]) := f1
  have hfr : ∀ i, i < 0 → ct13 i = ct0 i := fun i hi => (f2 i (by omega)).trans (hfr i hi)
  have hR1 := fun r (hr : r ≤ 1) => (f2 (1 + r) (by omega)).trans (hR1 r hr)
  have hR3 := fun r (hr : r ≤ 21) => (f2 (3 + r) (by omega)).trans (hR3 r hr)
  have hR25 := fun r (hr : r ≤ 489) => (f2 (25 + r) (by omega)).trans (hR25 r hr)
  have hR515 := fun r (hr : r ≤ 60) => (f2 (515 + r) (by omega)).trans (hR515 r hr)
  refine rc_aload_n E dX12_init_53 rfl 0 rfl ?_
  refine rc_new (ci := 1) (fs := [.int 0, .null, .null, .null, .int 0, .null, .int 0, .null, .int 0, .int 0, .int 0, .int 0, .int 0, .int 0]) (N := 14) E rfl iT_2 tyX2 tyX2_ok kc_X12_30 ki_X2 kn_X2 (fun j hj => by rcases (show j = 0 ∨ j = 1 ∨ j = 2 ∨ j = 3 ∨ j = 4 ∨ j = 5 ∨ j = 6 ∨ j = 7 ∨ j = 8 ∨ j = 9 ∨ j = 10 ∨ j = 11 ∨ j = 12 ∨ j = 13 by omega) with rfl | rfl | rfl | rfl | rfl | rfl | rfl | rfl | rfl | rfl | rfl | rfl | rfl | rfl <;> rfl) ⟨Nat.le_of_ble_eq_true rfl, Nat.le_of_ble_eq_true rfl⟩ dX12_init_54 (fun a576 ad14 ct14 f0 f1 f2 f3 => ?_)
  have hA576 : ad14 576 = a576 := f0
  have hC576 : ct14 576 = .inr (1, [.int 0, .null, .null, .null, .int 0, .null, .int 0, .null, .int 0, .int 0, .int 0, .int 0, .int 0, .int 0]) := f2
  have hA0 := (f1 _ (by omega)).trans hA0
  have hA1 := (f1 _ (by omega)).trans hA1
  have hA3 := (f1 _ (by omega)).trans hA3
  have hA25 := (f1 _ (by omega)).trans hA25
  have hA515 := (f1 _ (by omega)).trans hA515
  have hku : ∀ i, i ≤ 0 ∨ 1000 ≤ i → ad14 i = ad0 i := fun i hi => (f1 i (by omega)).trans (hku i hi)
  have hC0 := (f3 _ (by omega)).trans hC0
  have hfr : ∀ i, i < 0 → ct14 i = ct0 i := fun i hi => (f3 i (by omega)).trans (hfr i hi)
  have hR1 := fun r (hr : r ≤ 1) => (f3 (1 + r) (by omega)).trans (hR1 r hr)
  have hR3 := fun r (hr : r ≤ 21) => (f3 (3 + r) (by omega)).trans (hR3 r hr)
  have hR25 := fun r (hr : r ≤ 489) => (f3 (25 + r) (by omega)).trans (hR25 r hr)
  have hR515 := fun r (hr : r ≤ 60) => (f3 (515 + r) (by omega)).trans (hR515 r hr)
  have hR1 := fun r (hr : r ≤ 1) => (hR1 r hr).trans (FX10_congr tc ad11 ad14 1 r hr (fun k hk => f1 k (by omega))).symm
  have hR3 := fun r (hr : r ≤ 21) => (hR3 r hr).trans (FX8_congr tc ad11 ad14 3 r hr (fun k hk => f1 k (by omega))).symm
  have hR25 := fun r (hr : r ≤ 489) => (hR25 r hr).trans (FX5_congr tc ad11 ad14 25 r hr (fun k hk => f1 k (by omega))).symm
  have hR515 := fun r (hr : r ≤ 60) => (hR515 r hr).trans (FX2_congr tc ad11 ad14 515 r hr (fun k hk => f1 k (by omega))).symm
  refine rc_dup E dX12_init_57 rfl ?_
  refine rc_init (k0 := 576) E (fun i hi => hku i (Or.inr hi)) c_X2_init cd_X2_init cn_X2_init mi_X12_32 rfl hA576 hC576 (by decide) (by decide) (Nat.le_of_ble_eq_true rfl) ⟨Nat.le_of_ble_eq_true rfl, Nat.le_of_ble_eq_true rfl⟩ ⟨Nat.le_of_ble_eq_true rfl, Nat.le_of_ble_eq_true rfl⟩ dX12_init_58 (fun ad15 ct15 g1 g2 g3 => ?_)
  have hA0 := (g1 0 (by omega)).trans hA0
  have hA1 := (g1 1 (by omega)).trans hA1
  have hA3 := (g1 3 (by omega)).trans hA3
  have hA25 := (g1 25 (by omega)).trans hA25
  have hA515 := (g1 515 (by omega)).trans hA515
  have hA576 := (g1 576 (by omega)).trans hA576
  have hC0 := (g2 0 (by omega)).trans hC0
  have hR1 := fun r (hr : r ≤ 1) => (g2 (1 + r) (by omega)).trans ((hR1 r hr).trans (FX10_congr tc ad14 ad15 1 r hr (fun k hk => g1 k (by omega))).symm)
  have hR3 := fun r (hr : r ≤ 21) => (g2 (3 + r) (by omega)).trans ((hR3 r hr).trans (FX8_congr tc ad14 ad15 3 r hr (fun k hk => g1 k (by omega))).symm)
  have hR25 := fun r (hr : r ≤ 489) => (g2 (25 + r) (by omega)).trans ((hR25 r hr).trans (FX5_congr tc ad14 ad15 25 r hr (fun k hk => g1 k (by omega))).symm)
  have hR515 := fun r (hr : r ≤ 60) => (g2 (515 + r) (by omega)).trans ((hR515 r hr).trans (FX2_congr tc ad14 ad15 515 r hr (fun k hk => g1 k (by omega))).symm)
  have hku : ∀ i, i ≤ 0 ∨ 1000 ≤ i → ad15 i = ad0 i := fun i hi => (g1 i (by omega)).trans (hku i hi)
  have hfr : ∀ i, i < 0 → ct15 i = ct0 i := fun i hi => (g2 i (by omega)).trans (hfr i hi)
  have hR576 : ∀ r, r ≤ 60 → ct15 (576 + r) = FX2 tc ad15 576 r := g3
  refine rc_put (k := 0) E (C := RX12) (T := TX12) (N := 9) (j := 5) (fs := [.ref a1, .ref a3, .ref a25, .ref a515, .int (0 : Int32), .null, .null, .null, .int 0]) (ci := 8) (by omega) hA0 hC0 rfl iT_12 tyX12 tyX12_ok nmX12 (by decide) fl_X12_41 rfl rfl (tyX12_ok 5 (by decide)) rfl rfl (Nat.le_of_ble_eq_true rfl) dX12_init_61 (fun ct16 f1 f2 => ?_)
  have hC0 : ct16 0 = .inr (8, [.ref a1, .ref a3, .ref a25, .ref a515, .int (0 : Int32), .ref a576, .null, .null, .int 0]) := f1
  have hfr : ∀ i, i < 0 → ct16 i = ct0 i := fun i hi => (f2 i (by omega)).trans (hfr i hi)
  have hR1 := fun r (hr : r ≤ 1) => (f2 (1 + r) (by omega)).trans (hR1 r hr)
  have hR3 := fun r (hr : r ≤ 21) => (f2 (3 + r) (by omega)).trans (hR3 r hr)
  have hR25 := fun r (hr : r ≤ 489) => (f2 (25 + r) (by omega)).trans (hR25 r hr)
  have hR515 := fun r (hr : r ≤ 60) => (f2 (515 + r) (by omega)).trans (hR515 r hr)
  have hR576 := fun r (hr : r ≤ 60) => (f2 (576 + r) (by omega)).trans (hR576 r hr)
  refine rc_aload_n E dX12_init_64 rfl 0 rfl ?_
  refine rc_new (ci := 1) (fs := [.int 0, .null, .null, .null, .int 0, .null, .int 0, .null, .int 0, .int 0, .int 0, .int 0, .int 0, .int 0]) (N := 14) E rfl iT_2 tyX2 tyX2_ok kc_X12_30 ki_X2 kn_X2 (fun j hj => by rcases (show j = 0 ∨ j = 1 ∨ j = 2 ∨ j = 3 ∨ j = 4 ∨ j = 5 ∨ j = 6 ∨ j = 7 ∨ j = 8 ∨ j = 9 ∨ j = 10 ∨ j = 11 ∨ j = 12 ∨ j = 13 by omega) with rfl | rfl | rfl | rfl | rfl | rfl | rfl | rfl | rfl | rfl | rfl | rfl | rfl | rfl <;> rfl) ⟨Nat.le_of_ble_eq_true rfl, Nat.le_of_ble_eq_true rfl⟩ dX12_init_65 (fun a637 ad17 ct17 f0 f1 f2 f3 => ?_)
  have hA637 : ad17 637 = a637 := f0
  have hC637 : ct17 637 = .inr (1, [.int 0, .null, .null, .null, .int 0, .null, .int 0, .null, .int 0, .int 0, .int 0, .int 0, .int 0, .int 0]) := f2
  have hA0 := (f1 _ (by omega)).trans hA0
  have hA1 := (f1 _ (by omega)).trans hA1
  have hA3 := (f1 _ (by omega)).trans hA3
  have hA25 := (f1 _ (by omega)).trans hA25
  have hA515 := (f1 _ (by omega)).trans hA515
  have hA576 := (f1 _ (by omega)).trans hA576
  have hku : ∀ i, i ≤ 0 ∨ 1000 ≤ i → ad17 i = ad0 i := fun i hi => (f1 i (by omega)).trans (hku i hi)
  have hC0 := (f3 _ (by omega)).trans hC0
  have hfr : ∀ i, i < 0 → ct17 i = ct0 i := fun i hi => (f3 i (by omega)).trans (hfr i hi)
  have hR1 := fun r (hr : r ≤ 1) => (f3 (1 + r) (by omega)).trans (hR1 r hr)
  have hR3 := fun r (hr : r ≤ 21) => (f3 (3 + r) (by omega)).trans (hR3 r hr)
  have hR25 := fun r (hr : r ≤ 489) => (f3 (25 + r) (by omega)).trans (hR25 r hr)
  have hR515 := fun r (hr : r ≤ 60) => (f3 (515 + r) (by omega)).trans (hR515 r hr)
  have hR576 := fun r (hr : r ≤ 60) => (f3 (576 + r) (by omega)).trans (hR576 r hr)
  have hR1 := fun r (hr : r ≤ 1) => (hR1 r hr).trans (FX10_congr tc ad15 ad17 1 r hr (fun k hk => f1 k (by omega))).symm
  have hR3 := fun r (hr : r ≤ 21) => (hR3 r hr).trans (FX8_congr tc ad15 ad17 3 r hr (fun k hk => f1 k (by omega))).symm
  have hR25 := fun r (hr : r ≤ 489) => (hR25 r hr).trans (FX5_congr tc ad15 ad17 25 r hr (fun k hk => f1 k (by omega))).symm
  have hR515 := fun r (hr : r ≤ 60) => (hR515 r hr).trans (FX2_congr tc ad15 ad17 515 r hr (fun k hk => f1 k (by omega))).symm
  have hR576 := fun r (hr : r ≤ 60) => (hR576 r hr).trans (FX2_congr tc ad15 ad17 576 r hr (fun k hk => f1 k (by omega))).symm
  refine rc_dup E dX12_init_68 rfl ?_
  refine rc_init (k0 := 637) E (fun i hi => hku i (Or.inr hi)) c_X2_init cd_X2_init cn_X2_init mi_X12_32 rfl hA637 hC637 (by decide) (by decide) (Nat.le_of_ble_eq_true rfl) ⟨Nat.le_of_ble_eq_true rfl, Nat.le_of_ble_eq_true rfl⟩ ⟨Nat.le_of_ble_eq_true rfl, Nat.le_of_ble_eq_true rfl⟩ dX12_init_69 (fun ad18 ct18 g1 g2 g3 => ?_)
  have hA0 := (g1 0 (by omega)).trans hA0
  have hA1 := (g1 1 (by omega)).trans hA1
  have hA3 := (g1 3 (by omega)).trans hA3
  have hA25 := (g1 25 (by omega)).trans hA25
  have hA515 := (g1 515 (by omega)).trans hA515
  have hA576 := (g1 576 (by omega)).trans hA576
  have hA637 := (g1 637 (by omega)).trans hA637
  have hC0 := (g2 0 (by omega)).trans hC0
  have hR1 := fun r (hr : r ≤ 1) => (g2 (1 + r) (by omega)).trans ((hR1 r hr).trans (FX10_congr tc ad17 ad18 1 r hr (fun k hk => g1 k (by omega))).symm)
  have hR3 := fun r (hr : r ≤ 21) => (g2 (3 + r) (by omega)).trans ((hR3 r hr).trans (FX8_congr tc ad17 ad18 3 r hr (fun k hk => g1 k (by omega))).symm)
  have hR25 := fun r (hr : r ≤ 489) => (g2 (25 + r) (by omega)).trans ((hR25 r hr).trans (FX5_congr tc ad17 ad18 25 r hr (fun k hk => g1 k (by omega))).symm)
  have hR515 := fun r (hr : r ≤ 60) => (g2 (515 + r) (by omega)).trans ((hR515 r hr).trans (FX2_congr tc ad17 ad18 515 r hr (fun k hk => g1 k (by omega))).symm)
  have hR576 := fun r (hr : r ≤ 60) => (g2 (576 + r) (by omega)).trans ((hR576 r hr).trans (FX2_congr tc ad17 ad18 576 r hr (fun k hk => g1 k (by omega))).symm)
  have hku : ∀ i, i ≤ 0 ∨ 1000 ≤ i → ad18 i = ad0 i := fun i hi => (g1 i (by omega)).trans (hku i hi)
  have hfr : ∀ i, i < 0 → ct18 i = ct0 i := fun i hi => (g2 i (by omega)).trans (hfr i hi)
  have hR637 : ∀ r, r ≤ 60 → ct18 (637 + r) = FX2 tc ad18 637 r := g3
  refine rc_put (k := 0) E (C := RX12) (T := TX12) (N := 9) (j := 6) (fs := [.ref a1, .ref a3, .ref a25, .ref a515, .int (0 : Int32), .ref a576, .null, .null, .int 0]) (ci := 8) (by omega) hA0 hC0 rfl iT_12 tyX12 tyX12_ok nmX12 (by decide) fl_X12_44 rfl rfl (tyX12_ok 6 (by decide)) rfl rfl (Nat.le_of_ble_eq_true rfl) dX12_init_72 (fun ct19 f1 f2 => ?_)
  have hC0 : ct19 0 = .inr (8, [.ref a1, .ref a3, .ref a25, .ref a515, .int (0 : Int32), .ref a576, .ref a637, .null, .int 0]) := f1
  have hfr : ∀ i, i < 0 → ct19 i = ct0 i := fun i hi => (f2 i (by omega)).trans (hfr i hi)
  have hR1 := fun r (hr : r ≤ 1) => (f2 (1 + r) (by omega)).trans (hR1 r hr)
  have hR3 := fun r (hr : r ≤ 21) => (f2 (3 + r) (by omega)).trans (hR3 r hr)
  have hR25 := fun r (hr : r ≤ 489) => (f2 (25 + r) (by omega)).trans (hR25 r hr)
  have hR515 := fun r (hr : r ≤ 60) => (f2 (515 + r) (by omega)).trans (hR515 r hr)
  have hR576 := fun r (hr : r ≤ 60) => (f2 (576 + r) (by omega)).trans (hR576 r hr)
  have hR637 := fun r (hr : r ≤ 60) => (f2 (637 + r) (by omega)).trans (hR637 r hr)
  refine rc_aload_n E dX12_init_75 rfl 0 rfl ?_
  refine rc_bipush E dX12_init_76 kb_31 ?_
  refine rc_newa_byte (N' := 31) E (by decide) rfl (Nat.le_of_ble_eq_true rfl) ⟨Nat.le_of_ble_eq_true rfl, Nat.le_of_ble_eq_true rfl⟩ dX12_init_78 (fun a698 ad20 ct20 f0 f1 f2 f3 => ?_)
  have hA698 : ad20 698 = a698 := f0
  have hC698 : ct20 698 = .inl (tc 0, 31, .inl (fun _ => 0)) := f2
  have hA0 := (f1 _ (by omega)).trans hA0
  have hA1 := (f1 _ (by omega)).trans hA1
  have hA3 := (f1 _ (by omega)).trans hA3
  have hA25 := (f1 _ (by omega)).trans hA25
  have hA515 := (f1 _ (by omega)).trans hA515
  have hA576 := (f1 _ (by omega)).trans hA576
  have hA637 := (f1 _ (by omega)).trans hA637
  have hku : ∀ i, i ≤ 0 ∨ 1000 ≤ i → ad20 i = ad0 i := fun i hi => (f1 i (by omega)).trans (hku i hi)
  have hC0 := (f3 _ (by omega)).trans hC0
  have hfr : ∀ i, i < 0 → ct20 i = ct0 i := fun i hi => (f3 i (by omega)).trans (hfr i hi)
  have hR1 := fun r (hr : r ≤ 1) => (f3 (1 + r) (by omega)).trans (hR1 r hr)
  have hR3 := fun r (hr : r ≤ 21) => (f3 (3 + r) (by omega)).trans (hR3 r hr)
  have hR25 := fun r (hr : r ≤ 489) => (f3 (25 + r) (by omega)).trans (hR25 r hr)
  have hR515 := fun r (hr : r ≤ 60) => (f3 (515 + r) (by omega)).trans (hR515 r hr)
  have hR576 := fun r (hr : r ≤ 60) => (f3 (576 + r) (by omega)).trans (hR576 r hr)
  have hR637 := fun r (hr : r ≤ 60) => (f3 (637 + r) (by omega)).trans (hR637 r hr)
  have hR1 := fun r (hr : r ≤ 1) => (hR1 r hr).trans (FX10_congr tc ad18 ad20 1 r hr (fun k hk => f1 k (by omega))).symm
  have hR3 := fun r (hr : r ≤ 21) => (hR3 r hr).trans (FX8_congr tc ad18 ad20 3 r hr (fun k hk => f1 k (by omega))).symm
  have hR25 := fun r (hr : r ≤ 489) => (hR25 r hr).trans (FX5_congr tc ad18 ad20 25 r hr (fun k hk => f1 k (by omega))).symm
  have hR515 := fun r (hr : r ≤ 60) => (hR515 r hr).trans (FX2_congr tc ad18 ad20 515 r hr (fun k hk => f1 k (by omega))).symm
  have hR576 := fun r (hr : r ≤ 60) => (hR576 r hr).trans (FX2_congr tc ad18 ad20 576 r hr (fun k hk => f1 k (by omega))).symm
  have hR637 := fun r (hr : r ≤ 60) => (hR637 r hr).trans (FX2_congr tc ad18 ad20 637 r hr (fun k hk => f1 k (by omega))).symm
  refine rc_putF (k := 0) E (C := RX12) (T := TX12) (N := 9) (j := 7) (fs := [.ref a1, .ref a3, .ref a25, .ref a515, .int (0 : Int32), .ref a576, .ref a637, .null, .int 0]) (ci := 8) (by omega) hA0 hC0 rfl iT_12 tyX12 tyX12_ok nmX12 (by decide) fl_X12_47 rfl rfl rfl (tyX12_ok 7 (by decide)) rfl rfl (Nat.le_of_ble_eq_true rfl) dX12_init_80 (fun ct21 f1 f2 => ?_)
  have hC0 : ct21 0 = .inr (8, [.ref a1, .ref a3, .ref a25, .ref a515, .int (0 : Int32), .ref a576, .ref a637, .ref a698, .int 0]) := f1
  have hC698 := (f2 _ (by omega)).trans hC698
  have hfr : ∀ i, i < 0 → ct21 i = ct0 i := fun i hi => (f2 i (by omega)).trans (hfr i hi)
  have hR1 := fun r (hr : r ≤ 1) => (f2 (1 + r) (by omega)).trans (hR1 r hr)
  have hR3 := fun r (hr : r ≤ 21) => (f2 (3 + r) (by omega)).trans (hR3 r hr)
  have hR25 := fun r (hr : r ≤ 489) => (f2 (25 + r) (by omega)).trans (hR25 r hr)
  have hR515 := fun r (hr : r ≤ 60) => (f2 (515 + r) (by omega)).trans (hR515 r hr)
  have hR576 := fun r (hr : r ≤ 60) => (f2 (576 + r) (by omega)).trans (hR576 r hr)
  have hR637 := fun r (hr : r ≤ 60) => (f2 (637 + r) (by omega)).trans (hR637 r hr)
  refine rc_aload_n E dX12_init_83 rfl 0 rfl ?_
  refine rc_iconst E dX12_init_84 ki_0 ?_
  refine rc_put (k := 0) E (C := RX12) (T := TX12) (N := 9) (j := 8) (fs := [.ref a1, .ref a3, .ref a25, .ref a515, .int (0 : Int32), .ref a576, .ref a637, .ref a698, .int 0]) (ci := 8) (by omega) hA0 hC0 rfl iT_12 tyX12 tyX12_ok nmX12 (by decide) fl_X12_51 rfl rfl (tyX12_ok 8 (by decide)) rfl rfl (Nat.le_of_ble_eq_true rfl) dX12_init_85 (fun ct22 f1 f2 => ?_)
  have hC0 : ct22 0 = .inr (8, [.ref a1, .ref a3, .ref a25, .ref a515, .int (0 : Int32), .ref a576, .ref a637, .ref a698, .int (0 : Int32)]) := f1
  have hC698 := (f2 _ (by omega)).trans hC698
  have hfr : ∀ i, i < 0 → ct22 i = ct0 i := fun i hi => (f2 i (by omega)).trans (hfr i hi)
  have hR1 := fun r (hr : r ≤ 1) => (f2 (1 + r) (by omega)).trans (hR1 r hr)
  have hR3 := fun r (hr : r ≤ 21) => (f2 (3 + r) (by omega)).trans (hR3 r hr)
  have hR25 := fun r (hr : r ≤ 489) => (f2 (25 + r) (by omega)).trans (hR25 r hr)
  have hR515 := fun r (hr : r ≤ 60) => (f2 (515 + r) (by omega)).trans (hR515 r hr)
  have hR576 := fun r (hr : r ≤ 60) => (f2 (576 + r) (by omega)).trans (hR576 r hr)
  have hR637 := fun r (hr : r ≤ 60) => (f2 (637 + r) (by omega)).trans (hR637 r hr)
  have hz0 : put ad20 1999 699 0 = ad0 0 := (put_n (by decide)).trans hA0
  have hu9 : ∀ i, i ≤ 0 ∨ 2000 ≤ i → put ad20 1999 699 i = ad0 i := fun i hi => (put_n (by omega)).trans (hku i (by omega))
  have hn9 : nW (put ad20 1999 699) = 699 := put_s _ _ _
  have hs9 : ∀ i, i < 711 ∨ 2000 ≤ i → put ad20 1999 699 i = ad20 i := fun i hi => put_n (by omega)
  refine rc_enter (n0 := 0) (n1 := 699) (M := mMain) E (by decide) (by decide) (by decide +kernel) hku ?_ (fun hA9 E => ?_)
  · intro k hk
    by_cases k1 : k = 0
    · subst k1
      refine Or.inl (hC0.trans ?_)
      rw [cel_0]
      show _ = (.inr (8, [.ref (put ad20 1999 699 1), .ref (put ad20 1999 699 3), .ref (put ad20 1999 699 25), .ref (put ad20 1999 699 515), .int (bz 0), .ref (put ad20 1999 699 (27 + 61 * (9 : Int32).toNatClampNeg)), .ref (put ad20 1999 699 (27 + 61 * (10 : Int32).toNatClampNeg)), .ref (put ad20 1999 699 698), .int 0]) : va_E)
      rw [bz_0, show put ad20 1999 699 1 = a1 from (hs9 1 (by decide)).trans hA1, show put ad20 1999 699 3 = a3 from (hs9 3 (by decide)).trans hA3, show put ad20 1999 699 25 = a25 from (hs9 25 (by decide)).trans hA25, show put ad20 1999 699 515 = a515 from (hs9 515 (by decide)).trans hA515, show put ad20 1999 699 (27 + 61 * (9 : Int32).toNatClampNeg) = a576 from (hs9 576 (by decide)).trans hA576, show put ad20 1999 699 (27 + 61 * (10 : Int32).toNatClampNeg) = a637 from (hs9 637 (by decide)).trans hA637, show put ad20 1999 699 698 = a698 from (hs9 698 (by decide)).trans hA698]
    by_cases k2 : k < 3
    · have q := hR1 (k - 1) (by omega)
      rw [show 1 + (k - 1) = k by omega] at q
      rw [q]
      rcases (show k = 1 ∨ k = 2 by omega) with rfl | rfl
      · refine Or.inl ?_
        rw [cel_1]
        show (.inr (7, [.ref (ad20 (1 + 1)), .int 0, .int 0, .int 0, .int 0, .int 0, .int 0, .int (-1)]) : va_E) = .inr (7, [.ref (put ad20 1999 699 2), .int 0, .int 0, .int 0, .int 0, .int 0, .int 0, .int (-1)])
        rw [show put ad20 1999 699 2 = ad20 2 from hs9 2 (by decide)]
      · exact Or.inl rfl
    by_cases k3 : k < 25
    · have q := hR3 (k - 3) (by omega)
      rw [show 3 + (k - 3) = k by omega] at q
      rw [q]
      by_cases k4 : k = 3
      · subst k4
        refine Or.inl ?_
        show (.inr (5, [.ref (ad20 (3 + 1)), .int 0, .int 0]) : va_E) = .inr (5, [.ref (put ad20 1999 699 4), .int 0, .int 0])
        rw [show put ad20 1999 699 4 = ad20 4 from hs9 4 (by decide)]
      by_cases k5 : k = 4
      · subst k5
        refine Or.inr ⟨tc 7, 20, tr 20 (fun j => ad20 (3 + 2 + j)), fun j => some (put ad20 1999 699 (5 + j)), rfl, rfl, fun j hj => ?_⟩
        rw [show tr 20 (fun j => ad20 (3 + 2 + j)) j = some (ad20 (3 + 2 + j)) from if_pos hj]
        show some (ad20 (3 + 2 + j)) = some (put ad20 1999 699 (5 + j))
        rw [hs9 (5 + j) (by omega), show 3 + 2 + j = 5 + j by omega]
      rw [cel_cmd tc _ ⟨by omega, k3⟩, show mMain k = rCm by unfold mMain; rw [if_neg k1, if_neg (by omega), if_neg (by omega), if_pos k3]]
      refine Or.inl ?_
      unfold FX8
      rw [if_neg (by omega), if_neg (by omega)]
      unfold eCommand
      rw [hs9 (2100 + _) (Or.inr (by omega))]
    have hm : ∀ b c, b = 27 + 61 * c → c < 11 → b ≤ k → k ≤ b + 60 → mMain k = mC (k - b) := fun b c hb hc h1 h2 => by
      unfold mMain
      rw [if_neg k1, if_neg (by omega), if_neg (by omega), if_neg k3, if_neg (by omega), if_pos (by omega), show (k - 27) % 61 = k - b by omega]
    have hblk : ∀ b c, b = 27 + 61 * c → c < 11 → b ≤ k → k ≤ b + 60 → ct22 k = FX2 tc ad20 b (k - b) → Eqv (ct22 k) (cel tc (put ad20 1999 699) k (mMain k)) := fun b c hb hc h1 h2 q => by
      rw [q]
      have w := eqv_FX2 (tc := tc) (ad := ad20) (ad' := put ad20 1999 699) hb hc (show k - b ≤ 60 by omega) hs9 (hm b c hb hc h1 h2)
      rw [show b + (k - b) = k by omega] at w
      exact w
    by_cases k4 : k < 515
    · have q := hR25 (k - 25) (by omega)
      rw [show 25 + (k - 25) = k by omega] at q
      by_cases k5 : k = 25
      · subst k5
        rw [q]
        refine Or.inl ?_
        show (.inr (3, [.ref (ad20 (25 + 1)), .int 0, .int 0]) : va_E) = .inr (3, [.ref (put ad20 1999 699 26), .int 0, .int 0])
        rw [show put ad20 1999 699 26 = ad20 26 from hs9 26 (by decide)]
      by_cases k6 : k = 26
      · subst k6
        rw [q]
        refine Or.inr ⟨tc 6, 8, tr 8 (fun j => ad20 (25 + 2 + 61 * j)), fun j => some (put ad20 1999 699 (27 + 61 * j)), rfl, rfl, fun j hj => ?_⟩
        rw [show tr 8 (fun j => ad20 (25 + 2 + 61 * j)) j = some (ad20 (25 + 2 + 61 * j)) from if_pos hj]
        show some (ad20 (25 + 2 + 61 * j)) = some (put ad20 1999 699 (27 + 61 * j))
        rw [hs9 (27 + 61 * j) (by omega), show 25 + 2 + 61 * j = 27 + 61 * j by omega]
      refine hblk (27 + 61 * ((k - 27) / 61)) ((k - 27) / 61) rfl (by omega) (by omega) (by omega) (q.trans ?_)
      unfold FX5
      rw [if_neg (by omega), if_neg (by omega), show k - 25 - 2 = k - 27 by omega, show k - (27 + 61 * ((k - 27) / 61)) = (k - 27) % 61 by omega]
    by_cases k5 : k < 576
    · have q := hR515 (k - 515) (by omega)
      rw [show 515 + (k - 515) = k by omega] at q
      exact hblk 515 8 rfl (by decide) (by omega) (by omega) q
    by_cases k6 : k < 637
    · have q := hR576 (k - 576) (by omega)
      rw [show 576 + (k - 576) = k by omega] at q
      exact hblk 576 9 rfl (by decide) (by omega) (by omega) q
    by_cases k7 : k < 698
    · have q := hR637 (k - 637) (by omega)
      rw [show 637 + (k - 637) = k by omega] at q
      exact hblk 637 10 rfl (by decide) (by omega) (by omega) q
    have hk9 : k = 698 := by omega
    subst hk9
    exact Or.inl hC698
  · clear hs9
    generalize put ad20 1999 699 = ad at hz0 hu9 hn9 hA9 E ⊢
    have hL : ([(0, Value.ref (ad0 0))] : List (Nat × Value)) = [(0, .ref (ad 0))] := by rw [hz0]
    rw [hL]
    unfold f_X12_tail at h
    refine ra_aload_n E dX12_init_88 rfl 0 rfl ?_
    refine gf_X12_0 E fl_X12_10 dX12_init_89 ?_
    refine ra_ldcS E sr_X12_55 dX12_init_92 ?_
    refine ra_callVV (rest := []) E (c_X10_appendSigns _ (Nat.le_of_ble_eq_true rfl) _ _ h) (lq_X10 _) cv_X10_appendSigns ml_X12_57 (by decide) (lm (by decide)) (fun R => ⟨_, cel_1 tc ad R⟩) rfl rfl rfl (Nat.le_of_ble_eq_true rfl) ⟨Nat.le_of_ble_eq_true rfl, Nat.le_of_ble_eq_true rfl⟩ ⟨Nat.le_of_ble_eq_true rfl, Nat.le_of_ble_eq_true rfl⟩ dX12_init_94 (fun M1 h => ?_)
    refine ra_aload_n E dX12_init_97 rfl 0 rfl ?_
    refine gf_X12_0 E fl_X12_10 dX12_init_98 ?_
    refine ra_ldcS E sr_X12_55 dX12_init_101 ?_
    refine ra_callIR (rest := [_]) E (c_J0_length_8abf5 _ (Nat.le_of_ble_eq_true rfl) _ _ h) (lq_J0 _) cv_J0_length_8abf5 ml_X12_61 (by decide) (rv_str E (Nat.le_of_ble_eq_true rfl)) rfl rfl (Nat.le_of_ble_eq_true rfl) ⟨Nat.le_of_ble_eq_true rfl, Nat.le_of_ble_eq_true rfl⟩ ⟨Nat.le_of_ble_eq_true rfl, Nat.le_of_ble_eq_true rfl⟩ dX12_init_103 (fun r3 M2 h => ?_)
    refine ra_callVV (rest := []) E (c_X10_begin _ _ _ h) (lq_X10 _) cv_X10_begin ml_X12_67 (by decide) (lm (by decide)) (fun R => ⟨_, cel_1 tc ad R⟩) rfl rfl rfl (Nat.le_of_ble_eq_true rfl) ⟨Nat.le_of_ble_eq_true rfl, Nat.le_of_ble_eq_true rfl⟩ ⟨Nat.le_of_ble_eq_true rfl, Nat.le_of_ble_eq_true rfl⟩ dX12_init_106 (fun M4 h => ?_)
    refine ra_aload_n E dX12_init_109 rfl 0 rfl ?_
    refine gf_X12_0 E fl_X12_10 dX12_init_110 ?_
    refine ra_aload_n E dX12_init_113 rfl 0 rfl ?_
    obtain ⟨g5, h⟩ := h
    refine gf_X12_5 E fl_X12_41 dX12_init_114 ?_
    refine ra_callVS (rest := []) E (c_X3_parse _ (isCanal_of g5) _ _ h) (lq_X3 _) ct_X3_parse ml_X12_71 (by decide) rfl rfl (Nat.le_of_ble_eq_true rfl) ⟨Nat.le_of_ble_eq_true rfl, Nat.le_of_ble_eq_true rfl⟩ ⟨Nat.le_of_ble_eq_true rfl, Nat.le_of_ble_eq_true rfl⟩ dX12_init_117 (fun M6 h => ?_)
    refine ra_aload_n E dX12_init_120 rfl 0 rfl ?_
    refine gf_X12_0 E fl_X12_10 dX12_init_121 ?_
    refine ra_callVV (rest := []) E (c_X10_empty _ _ h) (lq_X10 _) cv_X10_empty ml_X12_77 (by decide) (lm (by decide)) (fun R => ⟨_, cel_1 tc ad R⟩) rfl rfl rfl (Nat.le_of_ble_eq_true rfl) ⟨Nat.le_of_ble_eq_true rfl, Nat.le_of_ble_eq_true rfl⟩ ⟨Nat.le_of_ble_eq_true rfl, Nat.le_of_ble_eq_true rfl⟩ dX12_init_124 (fun M7 h => ?_)
    exact rn_vret E hr hu9 hn9 hA9 ⟨Nat.le_of_ble_eq_true rfl, Nat.le_of_ble_eq_true rfl⟩ dX12_init_127 h
def f_X13_tail (M : TM) (K : TM → Prop) : Prop := f_X13_begin (6 : Int32) M (fun M1 => vp_in (M1 699 6) 2 ∧ vp_in (11 : Int32) 377 ∧ ∀ M4, M4 = u2 M1 (700 + (M1 699 6).toNatClampNeg) (11 : Int32).toNatClampNeg (3 : Int32) → vp_in (M4 699 6) 2 ∧ vp_in (28 : Int32) 377 ∧ ∀ M7, M7 = u2 M4 (700 + (M4 699 6).toNatClampNeg) (28 : Int32).toNatClampNeg (4 : Int32) → vp_in (M7 699 6) 2 ∧ vp_in (14 : Int32) 377 ∧ ∀ M10, M10 = u2 M7 (700 + (M7 699 6).toNatClampNeg) (14 : Int32).toNatClampNeg (2 : Int32) → f_X13_addBarge (0 : Int32) (3 : Int32) (10 : Int32) (6 : Int32) M10 (fun M11 => f_X13_addBarge (2 : Int32) (5 : Int32) (4 : Int32) (2 : Int32) M11 (fun M12 => f_X13_addOrder (2 : Int32) (2 : Int32) (3 : Int32) (20 : Int32) M12 (fun M13 => f_X13_addOrder (5 : Int32) (1 : Int32) (1 : Int32) (30 : Int32) M13 (fun M14 => f_X13_addOrder (1 : Int32) (3 : Int32) (2 : Int32) (15 : Int32) M14 (fun M15 => K M15))))))
set_option maxRecDepth 100000 in
set_option maxHeartbeats 8000000 in
theorem c_X13_init (M : TM) (K : TM → Prop) (h : f_X13_tail (mMod M) K) : MN yX13_init cX13_init 1 2 10 5542 699 710 (.inr (9, [.null, .null, .null, .null, .null, .null, .null, .int 0, .int 0, .int 0, .int 0, .int 0, .null, .int 0, .null, .int 0, .int 0, .int 0, .int 0, .int 0, .int 0, .int 0, .int 0, .int 0, .null, .null, .int 0, .int 0])) M K := by
  refine MN_of RX13 rfl (by decide +kernel) rfl (Nat.le_of_ble_eq_true rfl) (fun p l e s m below meth c D tc ad0 ct0 hct0 hce0 hfr0 E hr => ?_)
  have hA0 : ad0 699 = ad0 699 := rfl
  have hC0 := hfr0
  have hku : ∀ i, i ≤ 699 ∨ 1000 ≤ i → ad0 i = ad0 i := fun _ _ => rfl
  have hfr : ∀ i, i < 699 → ct0 i = ct0 i := fun _ _ => rfl
  refine rc_aload_n E dX13_init_0 rfl 0 rfl ?_
  refine rc_obj E mo_X13_1 ⟨Nat.le_of_ble_eq_true rfl, Nat.le_of_ble_eq_true rfl⟩ dX13_init_1 ?_
  refine rc_aload_n E dX13_init_4 rfl 0 rfl ?_
  refine rc_sipush E dX13_init_5 ks_377 ?_
  refine rc_newa_int (N' := 377) E (by decide) rfl (Nat.le_of_ble_eq_true rfl) ⟨Nat.le_of_ble_eq_true rfl, Nat.le_of_ble_eq_true rfl⟩ dX13_init_8 (fun a1 ad1 ct1 f0 f1 f2 f3 => ?_)
  have hA1 : ad1 700 = a1 := f0
  have hC1 : ct1 700 = .inl (tc 1, 377, .inl (fun _ => 0)) := f2
  have hA0 := (f1 _ (by omega)).trans hA0
  have hku : ∀ i, i ≤ 699 ∨ 1000 ≤ i → ad1 i = ad0 i := fun i hi => (f1 i (by omega)).trans (hku i hi)
  have hC0 := (f3 _ (by omega)).trans hC0
  have hfr : ∀ i, i < 699 → ct1 i = ct0 i := fun i hi => (f3 i (by omega)).trans (hfr i hi)
  refine rc_putF (k := 699) E (C := RX13) (T := TX13) (N := 28) (j := 0) (fs := [.null, .null, .null, .null, .null, .null, .null, .int 0, .int 0, .int 0, .int 0, .int 0, .null, .int 0, .null, .int 0, .int 0, .int 0, .int 0, .int 0, .int 0, .int 0, .int 0, .int 0, .null, .null, .int 0, .int 0]) (ci := 9) (by omega) hA0 hC0 rfl iT_13 tyX13 tyX13_ok nmX13 (by decide) fl_X13_9 rfl rfl rfl (tyX13_ok 0 (by decide)) rfl rfl (Nat.le_of_ble_eq_true rfl) dX13_init_10 (fun ct2 f1 f2 => ?_)
  have hC0 : ct2 699 = .inr (9, [.ref a1, .null, .null, .null, .null, .null, .null, .int 0, .int 0, .int 0, .int 0, .int 0, .null, .int 0, .null, .int 0, .int 0, .int 0, .int 0, .int 0, .int 0, .int 0, .int 0, .int 0, .null, .null, .int 0, .int 0]) := f1
  have hC1 := (f2 _ (by omega)).trans hC1
  have hfr : ∀ i, i < 699 → ct2 i = ct0 i := fun i hi => (f2 i (by omega)).trans (hfr i hi)
  refine rc_aload_n E dX13_init_13 rfl 0 rfl ?_
  refine rc_sipush E dX13_init_14 ks_377 ?_
  refine rc_newa_int (N' := 377) E (by decide) rfl (Nat.le_of_ble_eq_true rfl) ⟨Nat.le_of_ble_eq_true rfl, Nat.le_of_ble_eq_true rfl⟩ dX13_init_17 (fun a2 ad3 ct3 f0 f1 f2 f3 => ?_)
  have hA2 : ad3 701 = a2 := f0
  have hC2 : ct3 701 = .inl (tc 1, 377, .inl (fun _ => 0)) := f2
  have hA0 := (f1 _ (by omega)).trans hA0
  have hA1 := (f1 _ (by omega)).trans hA1
  have hku : ∀ i, i ≤ 699 ∨ 1000 ≤ i → ad3 i = ad0 i := fun i hi => (f1 i (by omega)).trans (hku i hi)
  have hC0 := (f3 _ (by omega)).trans hC0
  have hC1 := (f3 _ (by omega)).trans hC1
  have hfr : ∀ i, i < 699 → ct3 i = ct0 i := fun i hi => (f3 i (by omega)).trans (hfr i hi)
  refine rc_putF (k := 699) E (C := RX13) (T := TX13) (N := 28) (j := 1) (fs := [.ref a1, .null, .null, .null, .null, .null, .null, .int 0, .int 0, .int 0, .int 0, .int 0, .null, .int 0, .null, .int 0, .int 0, .int 0, .int 0, .int 0, .int 0, .int 0, .int 0, .int 0, .null, .null, .int 0, .int 0]) (ci := 9) (by omega) hA0 hC0 rfl iT_13 tyX13 tyX13_ok nmX13 (by decide) fl_X13_13 rfl rfl rfl (tyX13_ok 1 (by decide)) rfl rfl (Nat.le_of_ble_eq_true rfl) dX13_init_19 (fun ct4 f1 f2 => ?_)
  have hC0 : ct4 699 = .inr (9, [.ref a1, .ref a2, .null, .null, .null, .null, .null, .int 0, .int 0, .int 0, .int 0, .int 0, .null, .int 0, .null, .int 0, .int 0, .int 0, .int 0, .int 0, .int 0, .int 0, .int 0, .int 0, .null, .null, .int 0, .int 0]) := f1
  have hC1 := (f2 _ (by omega)).trans hC1
  have hC2 := (f2 _ (by omega)).trans hC2
  have hfr : ∀ i, i < 699 → ct4 i = ct0 i := fun i hi => (f2 i (by omega)).trans (hfr i hi)
  refine rc_aload_n E dX13_init_22 rfl 0 rfl ?_
  refine rc_sipush E dX13_init_23 ks_377 ?_
  refine rc_newa_int (N' := 377) E (by decide) rfl (Nat.le_of_ble_eq_true rfl) ⟨Nat.le_of_ble_eq_true rfl, Nat.le_of_ble_eq_true rfl⟩ dX13_init_26 (fun a3 ad5 ct5 f0 f1 f2 f3 => ?_)
  have hA3 : ad5 702 = a3 := f0
  have hC3 : ct5 702 = .inl (tc 1, 377, .inl (fun _ => 0)) := f2
  have hA0 := (f1 _ (by omega)).trans hA0
  have hA1 := (f1 _ (by omega)).trans hA1
  have hA2 := (f1 _ (by omega)).trans hA2
  have hku : ∀ i, i ≤ 699 ∨ 1000 ≤ i → ad5 i = ad0 i := fun i hi => (f1 i (by omega)).trans (hku i hi)
  have hC0 := (f3 _ (by omega)).trans hC0
  have hC1 := (f3 _ (by omega)).trans hC1
  have hC2 := (f3 _ (by omega)).trans hC2
  have hfr : ∀ i, i < 699 → ct5 i = ct0 i := fun i hi => (f3 i (by omega)).trans (hfr i hi)
  refine rc_putF (k := 699) E (C := RX13) (T := TX13) (N := 28) (j := 2) (fs := [.ref a1, .ref a2, .null, .null, .null, .null, .null, .int 0, .int 0, .int 0, .int 0, .int 0, .null, .int 0, .null, .int 0, .int 0, .int 0, .int 0, .int 0, .int 0, .int 0, .int 0, .int 0, .null, .null, .int 0, .int 0]) (ci := 9) (by omega) hA0 hC0 rfl iT_13 tyX13 tyX13_ok nmX13 (by decide) fl_X13_16 rfl rfl rfl (tyX13_ok 2 (by decide)) rfl rfl (Nat.le_of_ble_eq_true rfl) dX13_init_28 (fun ct6 f1 f2 => ?_)
  have hC0 : ct6 699 = .inr (9, [.ref a1, .ref a2, .ref a3, .null, .null, .null, .null, .int 0, .int 0, .int 0, .int 0, .int 0, .null, .int 0, .null, .int 0, .int 0, .int 0, .int 0, .int 0, .int 0, .int 0, .int 0, .int 0, .null, .null, .int 0, .int 0]) := f1
  have hC1 := (f2 _ (by omega)).trans hC1
  have hC2 := (f2 _ (by omega)).trans hC2
  have hC3 := (f2 _ (by omega)).trans hC3
  have hfr : ∀ i, i < 699 → ct6 i = ct0 i := fun i hi => (f2 i (by omega)).trans (hfr i hi)
  refine rc_aload_n E dX13_init_31 rfl 0 rfl ?_
  refine rc_sipush E dX13_init_32 ks_377 ?_
  refine rc_newa_int (N' := 377) E (by decide) rfl (Nat.le_of_ble_eq_true rfl) ⟨Nat.le_of_ble_eq_true rfl, Nat.le_of_ble_eq_true rfl⟩ dX13_init_35 (fun a4 ad7 ct7 f0 f1 f2 f3 => ?_)
  have hA4 : ad7 703 = a4 := f0
  have hC4 : ct7 703 = .inl (tc 1, 377, .inl (fun _ => 0)) := f2
  have hA0 := (f1 _ (by omega)).trans hA0
  have hA1 := (f1 _ (by omega)).trans hA1
  have hA2 := (f1 _ (by omega)).trans hA2
  have hA3 := (f1 _ (by omega)).trans hA3
  have hku : ∀ i, i ≤ 699 ∨ 1000 ≤ i → ad7 i = ad0 i := fun i hi => (f1 i (by omega)).trans (hku i hi)
  have hC0 := (f3 _ (by omega)).trans hC0
  have hC1 := (f3 _ (by omega)).trans hC1
  have hC2 := (f3 _ (by omega)).trans hC2
  have hC3 := (f3 _ (by omega)).trans hC3
  have hfr : ∀ i, i < 699 → ct7 i = ct0 i := fun i hi => (f3 i (by omega)).trans (hfr i hi)
  refine rc_putF (k := 699) E (C := RX13) (T := TX13) (N := 28) (j := 3) (fs := [.ref a1, .ref a2, .ref a3, .null, .null, .null, .null, .int 0, .int 0, .int 0, .int 0, .int 0, .null, .int 0, .null, .int 0, .int 0, .int 0, .int 0, .int 0, .int 0, .int 0, .int 0, .int 0, .null, .null, .int 0, .int 0]) (ci := 9) (by omega) hA0 hC0 rfl iT_13 tyX13 tyX13_ok nmX13 (by decide) fl_X13_19 rfl rfl rfl (tyX13_ok 3 (by decide)) rfl rfl (Nat.le_of_ble_eq_true rfl) dX13_init_37 (fun ct8 f1 f2 => ?_)
  have hC0 : ct8 699 = .inr (9, [.ref a1, .ref a2, .ref a3, .ref a4, .null, .null, .null, .int 0, .int 0, .int 0, .int 0, .int 0, .null, .int 0, .null, .int 0, .int 0, .int 0, .int 0, .int 0, .int 0, .int 0, .int 0, .int 0, .null, .null, .int 0, .int 0]) := f1
  have hC1 := (f2 _ (by omega)).trans hC1
  have hC2 := (f2 _ (by omega)).trans hC2
  have hC3 := (f2 _ (by omega)).trans hC3
  have hC4 := (f2 _ (by omega)).trans hC4
  have hfr : ∀ i, i < 699 → ct8 i = ct0 i := fun i hi => (f2 i (by omega)).trans (hfr i hi)
  refine rc_aload_n E dX13_init_40 rfl 0 rfl ?_
  refine rc_sipush E dX13_init_41 ks_377 ?_
  refine rc_newa_int (N' := 377) E (by decide) rfl (Nat.le_of_ble_eq_true rfl) ⟨Nat.le_of_ble_eq_true rfl, Nat.le_of_ble_eq_true rfl⟩ dX13_init_44 (fun a5 ad9 ct9 f0 f1 f2 f3 => ?_)
  have hA5 : ad9 704 = a5 := f0
  have hC5 : ct9 704 = .inl (tc 1, 377, .inl (fun _ => 0)) := f2
  have hA0 := (f1 _ (by omega)).trans hA0
  have hA1 := (f1 _ (by omega)).trans hA1
  have hA2 := (f1 _ (by omega)).trans hA2
  have hA3 := (f1 _ (by omega)).trans hA3
  have hA4 := (f1 _ (by omega)).trans hA4
  have hku : ∀ i, i ≤ 699 ∨ 1000 ≤ i → ad9 i = ad0 i := fun i hi => (f1 i (by omega)).trans (hku i hi)
  have hC0 := (f3 _ (by omega)).trans hC0
  have hC1 := (f3 _ (by omega)).trans hC1
  have hC2 := (f3 _ (by omega)).trans hC2
  have hC3 := (f3 _ (by omega)).trans hC3
  have hC4 := (f3 _ (by omega)).trans hC4
  have hfr : ∀ i, i < 699 → ct9 i = ct0 i := fun i hi => (f3 i (by omega)).trans (hfr i hi)
  refine rc_putF (k := 699) E (C := RX13) (T := TX13) (N := 28) (j := 4) (fs := [.ref a1, .ref a2, .ref a3, .ref a4, .null, .null, .null, .int 0, .int 0, .int 0, .int 0, .int 0, .null, .int 0, .null, .int 0, .int 0, .int 0, .int 0, .int 0, .int 0, .int 0, .int 0, .int 0, .null, .null, .int 0, .int 0]) (ci := 9) (by omega) hA0 hC0 rfl iT_13 tyX13 tyX13_ok nmX13 (by decide) fl_X13_22 rfl rfl rfl (tyX13_ok 4 (by decide)) rfl rfl (Nat.le_of_ble_eq_true rfl) dX13_init_46 (fun ct10 f1 f2 => ?_)
  have hC0 : ct10 699 = .inr (9, [.ref a1, .ref a2, .ref a3, .ref a4, .ref a5, .null, .null, .int 0, .int 0, .int 0, .int 0, .int 0, .null, .int 0, .null, .int 0, .int 0, .int 0, .int 0, .int 0, .int 0, .int 0, .int 0, .int 0, .null, .null, .int 0, .int 0]) := f1
  have hC1 := (f2 _ (by omega)).trans hC1
  have hC2 := (f2 _ (by omega)).trans hC2
  have hC3 := (f2 _ (by omega)).trans hC3
  have hC4 := (f2 _ (by omega)).trans hC4
  have hC5 := (f2 _ (by omega)).trans hC5
  have hfr : ∀ i, i < 699 → ct10 i = ct0 i := fun i hi => (f2 i (by omega)).trans (hfr i hi)
  refine rc_aload_n E dX13_init_49 rfl 0 rfl ?_
  refine rc_sipush E dX13_init_50 ks_3016 ?_
  refine rc_newa_int (N' := 3016) E (by decide) rfl (Nat.le_of_ble_eq_true rfl) ⟨Nat.le_of_ble_eq_true rfl, Nat.le_of_ble_eq_true rfl⟩ dX13_init_53 (fun a6 ad11 ct11 f0 f1 f2 f3 => ?_)
  have hA6 : ad11 705 = a6 := f0
  have hC6 : ct11 705 = .inl (tc 1, 3016, .inl (fun _ => 0)) := f2
  have hA0 := (f1 _ (by omega)).trans hA0
  have hA1 := (f1 _ (by omega)).trans hA1
  have hA2 := (f1 _ (by omega)).trans hA2
  have hA3 := (f1 _ (by omega)).trans hA3
  have hA4 := (f1 _ (by omega)).trans hA4
  have hA5 := (f1 _ (by omega)).trans hA5
  have hku : ∀ i, i ≤ 699 ∨ 1000 ≤ i → ad11 i = ad0 i := fun i hi => (f1 i (by omega)).trans (hku i hi)
  have hC0 := (f3 _ (by omega)).trans hC0
  have hC1 := (f3 _ (by omega)).trans hC1
  have hC2 := (f3 _ (by omega)).trans hC2
  have hC3 := (f3 _ (by omega)).trans hC3
  have hC4 := (f3 _ (by omega)).trans hC4
  have hC5 := (f3 _ (by omega)).trans hC5
  have hfr : ∀ i, i < 699 → ct11 i = ct0 i := fun i hi => (f3 i (by omega)).trans (hfr i hi)
  refine rc_putF (k := 699) E (C := RX13) (T := TX13) (N := 28) (j := 5) (fs := [.ref a1, .ref a2, .ref a3, .ref a4, .ref a5, .null, .null, .int 0, .int 0, .int 0, .int 0, .int 0, .null, .int 0, .null, .int 0, .int 0, .int 0, .int 0, .int 0, .int 0, .int 0, .int 0, .int 0, .null, .null, .int 0, .int 0]) (ci := 9) (by omega) hA0 hC0 rfl iT_13 tyX13 tyX13_ok nmX13 (by decide) fl_X13_25 rfl rfl rfl (tyX13_ok 5 (by decide)) rfl rfl (Nat.le_of_ble_eq_true rfl) dX13_init_55 (fun ct12 f1 f2 => ?_)
  have hC0 : ct12 699 = .inr (9, [.ref a1, .ref a2, .ref a3, .ref a4, .ref a5, .ref a6, .null, .int 0, .int 0, .int 0, .int 0, .int 0, .null, .int 0, .null, .int 0, .int 0, .int 0, .int 0, .int 0, .int 0, .int 0, .int 0, .int 0, .null, .null, .int 0, .int 0]) := f1
  have hC1 := (f2 _ (by omega)).trans hC1
  have hC2 := (f2 _ (by omega)).trans hC2
  have hC3 := (f2 _ (by omega)).trans hC3
  have hC4 := (f2 _ (by omega)).trans hC4
  have hC5 := (f2 _ (by omega)).trans hC5
  have hC6 := (f2 _ (by omega)).trans hC6
  have hfr : ∀ i, i < 699 → ct12 i = ct0 i := fun i hi => (f2 i (by omega)).trans (hfr i hi)
  refine rc_aload_n E dX13_init_58 rfl 0 rfl ?_
  refine rc_aload_n E dX13_init_59 rfl 0 rfl ?_
  refine rc_get (k := 699) E (C := RX13) (T := TX13) (N := 28) (j := 0) (fs := [.ref a1, .ref a2, .ref a3, .ref a4, .ref a5, .ref a6, .null, .int 0, .int 0, .int 0, .int 0, .int 0, .null, .int 0, .null, .int 0, .int 0, .int 0, .int 0, .int 0, .int 0, .int 0, .int 0, .int 0, .null, .null, .int 0, .int 0]) (ci := 9) (by omega) hA0 hC0 rfl iT_13 (by decide) fl_X13_9 rfl rfl dX13_init_60 ?_
  refine rc_put (k := 699) E (C := RX13) (T := TX13) (N := 28) (j := 6) (fs := [.ref a1, .ref a2, .ref a3, .ref a4, .ref a5, .ref a6, .null, .int 0, .int 0, .int 0, .int 0, .int 0, .null, .int 0, .null, .int 0, .int 0, .int 0, .int 0, .int 0, .int 0, .int 0, .int 0, .int 0, .null, .null, .int 0, .int 0]) (ci := 9) (by omega) hA0 hC0 rfl iT_13 tyX13 tyX13_ok nmX13 (by decide) fl_X13_28 rfl rfl (tyX13_ok 6 (by decide)) rfl rfl (Nat.le_of_ble_eq_true rfl) dX13_init_63 (fun ct13 f1 f2 => ?_)
  have hC0 : ct13 699 = .inr (9, [.ref a1, .ref a2, .ref a3, .ref a4, .ref a5, .ref a6, .ref a1, .int 0, .int 0, .int 0, .int 0, .int 0, .null, .int 0, .null, .int 0, .int 0, .int 0, .int 0, .int 0, .int 0, .int 0, .int 0, .int 0, .null, .null, .int 0, .int 0]) := f1
  have hC1 := (f2 _ (by omega)).trans hC1
  have hC2 := (f2 _ (by omega)).trans hC2
  have hC3 := (f2 _ (by omega)).trans hC3
  have hC4 := (f2 _ (by omega)).trans hC4
  have hC5 := (f2 _ (by omega)).trans hC5
  have hC6 := (f2 _ (by omega)).trans hC6
  have hfr : ∀ i, i < 699 → ct13 i = ct0 i := fun i hi => (f2 i (by omega)).trans (hfr i hi)
  refine rc_aload_n E dX13_init_66 rfl 0 rfl ?_
  refine rc_bipush E dX13_init_67 kb_32 ?_
  refine rc_newa_int (N' := 32) E (by decide) rfl (Nat.le_of_ble_eq_true rfl) ⟨Nat.le_of_ble_eq_true rfl, Nat.le_of_ble_eq_true rfl⟩ dX13_init_69 (fun a7 ad14 ct14 f0 f1 f2 f3 => ?_)
  have hA7 : ad14 706 = a7 := f0
  have hC7 : ct14 706 = .inl (tc 1, 32, .inl (fun _ => 0)) := f2
  have hA0 := (f1 _ (by omega)).trans hA0
  have hA1 := (f1 _ (by omega)).trans hA1
  have hA2 := (f1 _ (by omega)).trans hA2
  have hA3 := (f1 _ (by omega)).trans hA3
  have hA4 := (f1 _ (by omega)).trans hA4
  have hA5 := (f1 _ (by omega)).trans hA5
  have hA6 := (f1 _ (by omega)).trans hA6
  have hku : ∀ i, i ≤ 699 ∨ 1000 ≤ i → ad14 i = ad0 i := fun i hi => (f1 i (by omega)).trans (hku i hi)
  have hC0 := (f3 _ (by omega)).trans hC0
  have hC1 := (f3 _ (by omega)).trans hC1
  have hC2 := (f3 _ (by omega)).trans hC2
  have hC3 := (f3 _ (by omega)).trans hC3
  have hC4 := (f3 _ (by omega)).trans hC4
  have hC5 := (f3 _ (by omega)).trans hC5
  have hC6 := (f3 _ (by omega)).trans hC6
  have hfr : ∀ i, i < 699 → ct14 i = ct0 i := fun i hi => (f3 i (by omega)).trans (hfr i hi)
  refine rc_putF (k := 699) E (C := RX13) (T := TX13) (N := 28) (j := 12) (fs := [.ref a1, .ref a2, .ref a3, .ref a4, .ref a5, .ref a6, .ref a1, .int 0, .int 0, .int 0, .int 0, .int 0, .null, .int 0, .null, .int 0, .int 0, .int 0, .int 0, .int 0, .int 0, .int 0, .int 0, .int 0, .null, .null, .int 0, .int 0]) (ci := 9) (by omega) hA0 hC0 rfl iT_13 tyX13 tyX13_ok nmX13 (by decide) fl_X13_31 rfl rfl rfl (tyX13_ok 12 (by decide)) rfl rfl (Nat.le_of_ble_eq_true rfl) dX13_init_71 (fun ct15 f1 f2 => ?_)
  have hC0 : ct15 699 = .inr (9, [.ref a1, .ref a2, .ref a3, .ref a4, .ref a5, .ref a6, .ref a1, .int 0, .int 0, .int 0, .int 0, .int 0, .ref a7, .int 0, .null, .int 0, .int 0, .int 0, .int 0, .int 0, .int 0, .int 0, .int 0, .int 0, .null, .null, .int 0, .int 0]) := f1
  have hC1 := (f2 _ (by omega)).trans hC1
  have hC2 := (f2 _ (by omega)).trans hC2
  have hC3 := (f2 _ (by omega)).trans hC3
  have hC4 := (f2 _ (by omega)).trans hC4
  have hC5 := (f2 _ (by omega)).trans hC5
  have hC6 := (f2 _ (by omega)).trans hC6
  have hC7 := (f2 _ (by omega)).trans hC7
  have hfr : ∀ i, i < 699 → ct15 i = ct0 i := fun i hi => (f2 i (by omega)).trans (hfr i hi)
  refine rc_aload_n E dX13_init_74 rfl 0 rfl ?_
  refine rc_sipush E dX13_init_75 ks_500 ?_
  refine rc_newa_int (N' := 500) E (by decide) rfl (Nat.le_of_ble_eq_true rfl) ⟨Nat.le_of_ble_eq_true rfl, Nat.le_of_ble_eq_true rfl⟩ dX13_init_78 (fun a8 ad16 ct16 f0 f1 f2 f3 => ?_)
  have hA8 : ad16 707 = a8 := f0
  have hC8 : ct16 707 = .inl (tc 1, 500, .inl (fun _ => 0)) := f2
  have hA0 := (f1 _ (by omega)).trans hA0
  have hA1 := (f1 _ (by omega)).trans hA1
  have hA2 := (f1 _ (by omega)).trans hA2
  have hA3 := (f1 _ (by omega)).trans hA3
  have hA4 := (f1 _ (by omega)).trans hA4
  have hA5 := (f1 _ (by omega)).trans hA5
  have hA6 := (f1 _ (by omega)).trans hA6
  have hA7 := (f1 _ (by omega)).trans hA7
  have hku : ∀ i, i ≤ 699 ∨ 1000 ≤ i → ad16 i = ad0 i := fun i hi => (f1 i (by omega)).trans (hku i hi)
  have hC0 := (f3 _ (by omega)).trans hC0
  have hC1 := (f3 _ (by omega)).trans hC1
  have hC2 := (f3 _ (by omega)).trans hC2
  have hC3 := (f3 _ (by omega)).trans hC3
  have hC4 := (f3 _ (by omega)).trans hC4
  have hC5 := (f3 _ (by omega)).trans hC5
  have hC6 := (f3 _ (by omega)).trans hC6
  have hC7 := (f3 _ (by omega)).trans hC7
  have hfr : ∀ i, i < 699 → ct16 i = ct0 i := fun i hi => (f3 i (by omega)).trans (hfr i hi)
  refine rc_putF (k := 699) E (C := RX13) (T := TX13) (N := 28) (j := 14) (fs := [.ref a1, .ref a2, .ref a3, .ref a4, .ref a5, .ref a6, .ref a1, .int 0, .int 0, .int 0, .int 0, .int 0, .ref a7, .int 0, .null, .int 0, .int 0, .int 0, .int 0, .int 0, .int 0, .int 0, .int 0, .int 0, .null, .null, .int 0, .int 0]) (ci := 9) (by omega) hA0 hC0 rfl iT_13 tyX13 tyX13_ok nmX13 (by decide) fl_X13_34 rfl rfl rfl (tyX13_ok 14 (by decide)) rfl rfl (Nat.le_of_ble_eq_true rfl) dX13_init_80 (fun ct17 f1 f2 => ?_)
  have hC0 : ct17 699 = .inr (9, [.ref a1, .ref a2, .ref a3, .ref a4, .ref a5, .ref a6, .ref a1, .int 0, .int 0, .int 0, .int 0, .int 0, .ref a7, .int 0, .ref a8, .int 0, .int 0, .int 0, .int 0, .int 0, .int 0, .int 0, .int 0, .int 0, .null, .null, .int 0, .int 0]) := f1
  have hC1 := (f2 _ (by omega)).trans hC1
  have hC2 := (f2 _ (by omega)).trans hC2
  have hC3 := (f2 _ (by omega)).trans hC3
  have hC4 := (f2 _ (by omega)).trans hC4
  have hC5 := (f2 _ (by omega)).trans hC5
  have hC6 := (f2 _ (by omega)).trans hC6
  have hC7 := (f2 _ (by omega)).trans hC7
  have hC8 := (f2 _ (by omega)).trans hC8
  have hfr : ∀ i, i < 699 → ct17 i = ct0 i := fun i hi => (f2 i (by omega)).trans (hfr i hi)
  refine rc_aload_n E dX13_init_83 rfl 0 rfl ?_
  refine rc_iconst E dX13_init_84 ki_m1 ?_
  refine rc_put (k := 699) E (C := RX13) (T := TX13) (N := 28) (j := 22) (fs := [.ref a1, .ref a2, .ref a3, .ref a4, .ref a5, .ref a6, .ref a1, .int 0, .int 0, .int 0, .int 0, .int 0, .ref a7, .int 0, .ref a8, .int 0, .int 0, .int 0, .int 0, .int 0, .int 0, .int 0, .int 0, .int 0, .null, .null, .int 0, .int 0]) (ci := 9) (by omega) hA0 hC0 rfl iT_13 tyX13 tyX13_ok nmX13 (by decide) fl_X13_37 rfl rfl (tyX13_ok 22 (by decide)) rfl rfl (Nat.le_of_ble_eq_true rfl) dX13_init_85 (fun ct18 f1 f2 => ?_)
  have hC0 : ct18 699 = .inr (9, [.ref a1, .ref a2, .ref a3, .ref a4, .ref a5, .ref a6, .ref a1, .int 0, .int 0, .int 0, .int 0, .int 0, .ref a7, .int 0, .ref a8, .int 0, .int 0, .int 0, .int 0, .int 0, .int 0, .int 0, .int (-1 : Int32), .int 0, .null, .null, .int 0, .int 0]) := f1
  have hC1 := (f2 _ (by omega)).trans hC1
  have hC2 := (f2 _ (by omega)).trans hC2
  have hC3 := (f2 _ (by omega)).trans hC3
  have hC4 := (f2 _ (by omega)).trans hC4
  have hC5 := (f2 _ (by omega)).trans hC5
  have hC6 := (f2 _ (by omega)).trans hC6
  have hC7 := (f2 _ (by omega)).trans hC7
  have hC8 := (f2 _ (by omega)).trans hC8
  have hfr : ∀ i, i < 699 → ct18 i = ct0 i := fun i hi => (f2 i (by omega)).trans (hfr i hi)
  refine rc_aload_n E dX13_init_88 rfl 0 rfl ?_
  refine rc_bipush E dX13_init_89 kb_100 ?_
  refine rc_newa_int (N' := 100) E (by decide) rfl (Nat.le_of_ble_eq_true rfl) ⟨Nat.le_of_ble_eq_true rfl, Nat.le_of_ble_eq_true rfl⟩ dX13_init_91 (fun a9 ad19 ct19 f0 f1 f2 f3 => ?_)
  have hA9 : ad19 708 = a9 := f0
  have hC9 : ct19 708 = .inl (tc 1, 100, .inl (fun _ => 0)) := f2
  have hA0 := (f1 _ (by omega)).trans hA0
  have hA1 := (f1 _ (by omega)).trans hA1
  have hA2 := (f1 _ (by omega)).trans hA2
  have hA3 := (f1 _ (by omega)).trans hA3
  have hA4 := (f1 _ (by omega)).trans hA4
  have hA5 := (f1 _ (by omega)).trans hA5
  have hA6 := (f1 _ (by omega)).trans hA6
  have hA7 := (f1 _ (by omega)).trans hA7
  have hA8 := (f1 _ (by omega)).trans hA8
  have hku : ∀ i, i ≤ 699 ∨ 1000 ≤ i → ad19 i = ad0 i := fun i hi => (f1 i (by omega)).trans (hku i hi)
  have hC0 := (f3 _ (by omega)).trans hC0
  have hC1 := (f3 _ (by omega)).trans hC1
  have hC2 := (f3 _ (by omega)).trans hC2
  have hC3 := (f3 _ (by omega)).trans hC3
  have hC4 := (f3 _ (by omega)).trans hC4
  have hC5 := (f3 _ (by omega)).trans hC5
  have hC6 := (f3 _ (by omega)).trans hC6
  have hC7 := (f3 _ (by omega)).trans hC7
  have hC8 := (f3 _ (by omega)).trans hC8
  have hfr : ∀ i, i < 699 → ct19 i = ct0 i := fun i hi => (f3 i (by omega)).trans (hfr i hi)
  refine rc_putF (k := 699) E (C := RX13) (T := TX13) (N := 28) (j := 24) (fs := [.ref a1, .ref a2, .ref a3, .ref a4, .ref a5, .ref a6, .ref a1, .int 0, .int 0, .int 0, .int 0, .int 0, .ref a7, .int 0, .ref a8, .int 0, .int 0, .int 0, .int 0, .int 0, .int 0, .int 0, .int (-1 : Int32), .int 0, .null, .null, .int 0, .int 0]) (ci := 9) (by omega) hA0 hC0 rfl iT_13 tyX13 tyX13_ok nmX13 (by decide) fl_X13_41 rfl rfl rfl (tyX13_ok 24 (by decide)) rfl rfl (Nat.le_of_ble_eq_true rfl) dX13_init_93 (fun ct20 f1 f2 => ?_)
  have hC0 : ct20 699 = .inr (9, [.ref a1, .ref a2, .ref a3, .ref a4, .ref a5, .ref a6, .ref a1, .int 0, .int 0, .int 0, .int 0, .int 0, .ref a7, .int 0, .ref a8, .int 0, .int 0, .int 0, .int 0, .int 0, .int 0, .int 0, .int (-1 : Int32), .int 0, .ref a9, .null, .int 0, .int 0]) := f1
  have hC1 := (f2 _ (by omega)).trans hC1
  have hC2 := (f2 _ (by omega)).trans hC2
  have hC3 := (f2 _ (by omega)).trans hC3
  have hC4 := (f2 _ (by omega)).trans hC4
  have hC5 := (f2 _ (by omega)).trans hC5
  have hC6 := (f2 _ (by omega)).trans hC6
  have hC7 := (f2 _ (by omega)).trans hC7
  have hC8 := (f2 _ (by omega)).trans hC8
  have hC9 := (f2 _ (by omega)).trans hC9
  have hfr : ∀ i, i < 699 → ct20 i = ct0 i := fun i hi => (f2 i (by omega)).trans (hfr i hi)
  refine rc_aload_n E dX13_init_96 rfl 0 rfl ?_
  refine rc_bipush E dX13_init_97 kb_9 ?_
  refine rc_newq (N' := 9) (t := 8) E rfl (by decide +kernel) kc_X13_44 (by decide) rfl (Nat.le_of_ble_eq_true rfl) ⟨Nat.le_of_ble_eq_true rfl, Nat.le_of_ble_eq_true rfl⟩ dX13_init_99 (fun a10 ad21 ct21 f0 f1 f2 f3 => ?_)
  have hA10 : ad21 709 = a10 := f0
  have hC10 : ct21 709 = .inl (tc 8, 9, .inr (.inr (.inr (.inr (fun _ => none))))) := f2
  have hA0 := (f1 _ (by omega)).trans hA0
  have hA1 := (f1 _ (by omega)).trans hA1
  have hA2 := (f1 _ (by omega)).trans hA2
  have hA3 := (f1 _ (by omega)).trans hA3
  have hA4 := (f1 _ (by omega)).trans hA4
  have hA5 := (f1 _ (by omega)).trans hA5
  have hA6 := (f1 _ (by omega)).trans hA6
  have hA7 := (f1 _ (by omega)).trans hA7
  have hA8 := (f1 _ (by omega)).trans hA8
  have hA9 := (f1 _ (by omega)).trans hA9
  have hku : ∀ i, i ≤ 699 ∨ 1000 ≤ i → ad21 i = ad0 i := fun i hi => (f1 i (by omega)).trans (hku i hi)
  have hC0 := (f3 _ (by omega)).trans hC0
  have hC1 := (f3 _ (by omega)).trans hC1
  have hC2 := (f3 _ (by omega)).trans hC2
  have hC3 := (f3 _ (by omega)).trans hC3
  have hC4 := (f3 _ (by omega)).trans hC4
  have hC5 := (f3 _ (by omega)).trans hC5
  have hC6 := (f3 _ (by omega)).trans hC6
  have hC7 := (f3 _ (by omega)).trans hC7
  have hC8 := (f3 _ (by omega)).trans hC8
  have hC9 := (f3 _ (by omega)).trans hC9
  have hfr : ∀ i, i < 699 → ct21 i = ct0 i := fun i hi => (f3 i (by omega)).trans (hfr i hi)
  refine rc_dup E dX13_init_102 rfl ?_
  refine rc_iconst E dX13_init_103 ki_0 ?_
  refine rc_ldcS E sr_X13_46 dX13_init_104 ?_
  refine rc_aastS (k := 709) (b := 0) E (by omega) hA10 hC10 (Nat.le_of_ble_eq_true rfl) (vpl _ _ (by decide)) dX13_init_106 (fun ct22 f1 f2 => ?_)
  have hC10 : ct22 709 = .inl (tc 8, 9, .inr (.inr (.inr (.inr (va_up (fun _ => none) 0 (some (ad0 (2200 + 0)))))))) := f1
  have hC0 := (f2 _ (by omega)).trans hC0
  have hC1 := (f2 _ (by omega)).trans hC1
  have hC2 := (f2 _ (by omega)).trans hC2
  have hC3 := (f2 _ (by omega)).trans hC3
  have hC4 := (f2 _ (by omega)).trans hC4
  have hC5 := (f2 _ (by omega)).trans hC5
  have hC6 := (f2 _ (by omega)).trans hC6
  have hC7 := (f2 _ (by omega)).trans hC7
  have hC8 := (f2 _ (by omega)).trans hC8
  have hC9 := (f2 _ (by omega)).trans hC9
  have hfr : ∀ i, i < 699 → ct22 i = ct0 i := fun i hi => (f2 i (by omega)).trans (hfr i hi)
  refine rc_dup E dX13_init_107 rfl ?_
  refine rc_iconst E dX13_init_108 ki_1 ?_
  refine rc_ldcS E sr_X13_48 dX13_init_109 ?_
  refine rc_aastS (k := 709) (b := 1) E (by omega) hA10 hC10 (Nat.le_of_ble_eq_true rfl) (vpl _ _ (by decide)) dX13_init_111 (fun ct23 f1 f2 => ?_)
  have hC10 : ct23 709 = .inl (tc 8, 9, .inr (.inr (.inr (.inr (va_up (va_up (fun _ => none) 0 (some (ad0 (2200 + 0)))) 1 (some (ad0 (2200 + 1)))))))) := f1
  have hC0 := (f2 _ (by omega)).trans hC0
  have hC1 := (f2 _ (by omega)).trans hC1
  have hC2 := (f2 _ (by omega)).trans hC2
  have hC3 := (f2 _ (by omega)).trans hC3
  have hC4 := (f2 _ (by omega)).trans hC4
  have hC5 := (f2 _ (by omega)).trans hC5
  have hC6 := (f2 _ (by omega)).trans hC6
  have hC7 := (f2 _ (by omega)).trans hC7
  have hC8 := (f2 _ (by omega)).trans hC8
  have hC9 := (f2 _ (by omega)).trans hC9
  have hfr : ∀ i, i < 699 → ct23 i = ct0 i := fun i hi => (f2 i (by omega)).trans (hfr i hi)
  refine rc_dup E dX13_init_112 rfl ?_
  refine rc_iconst E dX13_init_113 ki_2 ?_
  refine rc_ldcS E sr_X13_50 dX13_init_114 ?_
  refine rc_aastS (k := 709) (b := 2) E (by omega) hA10 hC10 (Nat.le_of_ble_eq_true rfl) (vpl _ _ (by decide)) dX13_init_116 (fun ct24 f1 f2 => ?_)
  have hC10 : ct24 709 = .inl (tc 8, 9, .inr (.inr (.inr (.inr (va_up (va_up (va_up (fun _ => none) 0 (some (ad0 (2200 + 0)))) 1 (some (ad0 (2200 + 1)))) 2 (some (ad0 (2200 + 2)))))))) := f1
  have hC0 := (f2 _ (by omega)).trans hC0
  have hC1 := (f2 _ (by omega)).trans hC1
  have hC2 := (f2 _ (by omega)).trans hC2
  have hC3 := (f2 _ (by omega)).trans hC3
  have hC4 := (f2 _ (by omega)).trans hC4
  have hC5 := (f2 _ (by omega)).trans hC5
  have hC6 := (f2 _ (by omega)).trans hC6
  have hC7 := (f2 _ (by omega)).trans hC7
  have hC8 := (f2 _ (by omega)).trans hC8
  have hC9 := (f2 _ (by omega)).trans hC9
  have hfr : ∀ i, i < 699 → ct24 i = ct0 i := fun i hi => (f2 i (by omega)).trans (hfr i hi)
  refine rc_dup E dX13_init_117 rfl ?_
  refine rc_iconst E dX13_init_118 ki_3 ?_
  refine rc_ldcS E sr_X13_52 dX13_init_119 ?_
  refine rc_aastS (k := 709) (b := 3) E (by omega) hA10 hC10 (Nat.le_of_ble_eq_true rfl) (vpl _ _ (by decide)) dX13_init_121 (fun ct25 f1 f2 => ?_)
  have hC10 : ct25 709 = .inl (tc 8, 9, .inr (.inr (.inr (.inr (va_up (va_up (va_up (va_up (fun _ => none) 0 (some (ad0 (2200 + 0)))) 1 (some (ad0 (2200 + 1)))) 2 (some (ad0 (2200 + 2)))) 3 (some (ad0 (2200 + 3)))))))) := f1
  have hC0 := (f2 _ (by omega)).trans hC0
  have hC1 := (f2 _ (by omega)).trans hC1
  have hC2 := (f2 _ (by omega)).trans hC2
  have hC3 := (f2 _ (by omega)).trans hC3
  have hC4 := (f2 _ (by omega)).trans hC4
  have hC5 := (f2 _ (by omega)).trans hC5
  have hC6 := (f2 _ (by omega)).trans hC6
  have hC7 := (f2 _ (by omega)).trans hC7
  have hC8 := (f2 _ (by omega)).trans hC8
  have hC9 := (f2 _ (by omega)).trans hC9
  have hfr : ∀ i, i < 699 → ct25 i = ct0 i := fun i hi => (f2 i (by omega)).trans (hfr i hi)
  refine rc_dup E dX13_init_122 rfl ?_
  refine rc_iconst E dX13_init_123 ki_4 ?_
  refine rc_ldcS E sr_X13_54 dX13_init_124 ?_
  refine rc_aastS (k := 709) (b := 4) E (by omega) hA10 hC10 (Nat.le_of_ble_eq_true rfl) (vpl _ _ (by decide)) dX13_init_126 (fun ct26 f1 f2 => ?_)
  have hC10 : ct26 709 = .inl (tc 8, 9, .inr (.inr (.inr (.inr (va_up (va_up (va_up (va_up (va_up (fun _ => none) 0 (some (ad0 (2200 + 0)))) 1 (some (ad0 (2200 + 1)))) 2 (some (ad0 (2200 + 2)))) 3 (some (ad0 (2200 + 3)))) 4 (some (ad0 (2200 + 4)))))))) := f1
  have hC0 := (f2 _ (by omega)).trans hC0
  have hC1 := (f2 _ (by omega)).trans hC1
  have hC2 := (f2 _ (by omega)).trans hC2
  have hC3 := (f2 _ (by omega)).trans hC3
  have hC4 := (f2 _ (by omega)).trans hC4
  have hC5 := (f2 _ (by omega)).trans hC5
  have hC6 := (f2 _ (by omega)).trans hC6
  have hC7 := (f2 _ (by omega)).trans hC7
  have hC8 := (f2 _ (by omega)).trans hC8
  have hC9 := (f2 _ (by omega)).trans hC9
  have hfr : ∀ i, i < 699 → ct26 i = ct0 i := fun i hi => (f2 i (by omega)).trans (hfr i hi)
  refine rc_dup E dX13_init_127 rfl ?_
  refine rc_iconst E dX13_init_128 ki_5 ?_
  refine rc_ldcS E sr_X13_56 dX13_init_129 ?_
  refine rc_aastS (k := 709) (b := 5) E (by omega) hA10 hC10 (Nat.le_of_ble_eq_true rfl) (vpl _ _ (by decide)) dX13_init_131 (fun ct27 f1 f2 => ?_)
  have hC10 : ct27 709 = .inl (tc 8, 9, .inr (.inr (.inr (.inr (va_up (va_up (va_up (va_up (va_up (va_up (fun _ => none) 0 (some (ad0 (2200 + 0)))) 1 (some (ad0 (2200 + 1)))) 2 (some (ad0 (2200 + 2)))) 3 (some (ad0 (2200 + 3)))) 4 (some (ad0 (2200 + 4)))) 5 (some (ad0 (2200 + 5)))))))) := f1
  have hC0 := (f2 _ (by omega)).trans hC0
  have hC1 := (f2 _ (by omega)).trans hC1
  have hC2 := (f2 _ (by omega)).trans hC2
  have hC3 := (f2 _ (by omega)).trans hC3
  have hC4 := (f2 _ (by omega)).trans hC4
  have hC5 := (f2 _ (by omega)).trans hC5
  have hC6 := (f2 _ (by omega)).trans hC6
  have hC7 := (f2 _ (by omega)).trans hC7
  have hC8 := (f2 _ (by omega)).trans hC8
  have hC9 := (f2 _ (by omega)).trans hC9
  have hfr : ∀ i, i < 699 → ct27 i = ct0 i := fun i hi => (f2 i (by omega)).trans (hfr i hi)
  refine rc_dup E dX13_init_132 rfl ?_
  refine rc_bipush E dX13_init_133 kb_6 ?_
  refine rc_ldcS E sr_X13_58 dX13_init_135 ?_
  refine rc_aastS (k := 709) (b := 6) E (by omega) hA10 hC10 (Nat.le_of_ble_eq_true rfl) (vpl _ _ (by decide)) dX13_init_137 (fun ct28 f1 f2 => ?_)
  have hC10 : ct28 709 = .inl (tc 8, 9, .inr (.inr (.inr (.inr (va_up (va_up (va_up (va_up (va_up (va_up (va_up (fun _ => none) 0 (some (ad0 (2200 + 0)))) 1 (some (ad0 (2200 + 1)))) 2 (some (ad0 (2200 + 2)))) 3 (some (ad0 (2200 + 3)))) 4 (some (ad0 (2200 + 4)))) 5 (some (ad0 (2200 + 5)))) 6 (some (ad0 (2200 + 6)))))))) := f1
  have hC0 := (f2 _ (by omega)).trans hC0
  have hC1 := (f2 _ (by omega)).trans hC1
  have hC2 := (f2 _ (by omega)).trans hC2
  have hC3 := (f2 _ (by omega)).trans hC3
  have hC4 := (f2 _ (by omega)).trans hC4
  have hC5 := (f2 _ (by omega)).trans hC5
  have hC6 := (f2 _ (by omega)).trans hC6
  have hC7 := (f2 _ (by omega)).trans hC7
  have hC8 := (f2 _ (by omega)).trans hC8
  have hC9 := (f2 _ (by omega)).trans hC9
  have hfr : ∀ i, i < 699 → ct28 i = ct0 i := fun i hi => (f2 i (by omega)).trans (hfr i hi)
  refine rc_dup E dX13_init_138 rfl ?_
  refine rc_bipush E dX13_init_139 kb_7 ?_
  refine rc_ldcS E sr_X13_60 dX13_init_141 ?_
  refine rc_aastS (k := 709) (b := 7) E (by omega) hA10 hC10 (Nat.le_of_ble_eq_true rfl) (vpl _ _ (by decide)) dX13_init_143 (fun ct29 f1 f2 => ?_)
  have hC10 : ct29 709 = .inl (tc 8, 9, .inr (.inr (.inr (.inr (va_up (va_up (va_up (va_up (va_up (va_up (va_up (va_up (fun _ => none) 0 (some (ad0 (2200 + 0)))) 1 (some (ad0 (2200 + 1)))) 2 (some (ad0 (2200 + 2)))) 3 (some (ad0 (2200 + 3)))) 4 (some (ad0 (2200 + 4)))) 5 (some (ad0 (2200 + 5)))) 6 (some (ad0 (2200 + 6)))) 7 (some (ad0 (2200 + 7)))))))) := f1
  have hC0 := (f2 _ (by omega)).trans hC0
  have hC1 := (f2 _ (by omega)).trans hC1
  have hC2 := (f2 _ (by omega)).trans hC2
  have hC3 := (f2 _ (by omega)).trans hC3
  have hC4 := (f2 _ (by omega)).trans hC4
  have hC5 := (f2 _ (by omega)).trans hC5
  have hC6 := (f2 _ (by omega)).trans hC6
  have hC7 := (f2 _ (by omega)).trans hC7
  have hC8 := (f2 _ (by omega)).trans hC8
  have hC9 := (f2 _ (by omega)).trans hC9
  have hfr : ∀ i, i < 699 → ct29 i = ct0 i := fun i hi => (f2 i (by omega)).trans (hfr i hi)
  refine rc_dup E dX13_init_144 rfl ?_
  refine rc_bipush E dX13_init_145 kb_8 ?_
  refine rc_ldcS E sr_X13_62 dX13_init_147 ?_
  refine rc_aastS (k := 709) (b := 8) E (by omega) hA10 hC10 (Nat.le_of_ble_eq_true rfl) (vpl _ _ (by decide)) dX13_init_149 (fun ct30 f1 f2 => ?_)
  have hC10 : ct30 709 = .inl (tc 8, 9, .inr (.inr (.inr (.inr (va_up (va_up (va_up (va_up (va_up (va_up (va_up (va_up (va_up (fun _ => none) 0 (some (ad0 (2200 + 0)))) 1 (some (ad0 (2200 + 1)))) 2 (some (ad0 (2200 + 2)))) 3 (some (ad0 (2200 + 3)))) 4 (some (ad0 (2200 + 4)))) 5 (some (ad0 (2200 + 5)))) 6 (some (ad0 (2200 + 6)))) 7 (some (ad0 (2200 + 7)))) 8 (some (ad0 (2200 + 8)))))))) := f1
  have hC0 := (f2 _ (by omega)).trans hC0
  have hC1 := (f2 _ (by omega)).trans hC1
  have hC2 := (f2 _ (by omega)).trans hC2
  have hC3 := (f2 _ (by omega)).trans hC3
  have hC4 := (f2 _ (by omega)).trans hC4
  have hC5 := (f2 _ (by omega)).trans hC5
  have hC6 := (f2 _ (by omega)).trans hC6
  have hC7 := (f2 _ (by omega)).trans hC7
  have hC8 := (f2 _ (by omega)).trans hC8
  have hC9 := (f2 _ (by omega)).trans hC9
  have hfr : ∀ i, i < 699 → ct30 i = ct0 i := fun i hi => (f2 i (by omega)).trans (hfr i hi)
  refine rc_putF (k := 699) E (C := RX13) (T := TX13) (N := 28) (j := 25) (fs := [.ref a1, .ref a2, .ref a3, .ref a4, .ref a5, .ref a6, .ref a1, .int 0, .int 0, .int 0, .int 0, .int 0, .ref a7, .int 0, .ref a8, .int 0, .int 0, .int 0, .int 0, .int 0, .int 0, .int 0, .int (-1 : Int32), .int 0, .ref a9, .null, .int 0, .int 0]) (ci := 9) (by omega) hA0 hC0 rfl iT_13 tyX13 tyX13_ok nmX13 (by decide) fl_X13_64 rfl rfl rfl (tyX13_ok 25 (by decide)) rfl rfl (Nat.le_of_ble_eq_true rfl) dX13_init_150 (fun ct31 f1 f2 => ?_)
  have hC0 : ct31 699 = .inr (9, [.ref a1, .ref a2, .ref a3, .ref a4, .ref a5, .ref a6, .ref a1, .int 0, .int 0, .int 0, .int 0, .int 0, .ref a7, .int 0, .ref a8, .int 0, .int 0, .int 0, .int 0, .int 0, .int 0, .int 0, .int (-1 : Int32), .int 0, .ref a9, .ref a10, .int 0, .int 0]) := f1
  have hC1 := (f2 _ (by omega)).trans hC1
  have hC2 := (f2 _ (by omega)).trans hC2
  have hC3 := (f2 _ (by omega)).trans hC3
  have hC4 := (f2 _ (by omega)).trans hC4
  have hC5 := (f2 _ (by omega)).trans hC5
  have hC6 := (f2 _ (by omega)).trans hC6
  have hC7 := (f2 _ (by omega)).trans hC7
  have hC8 := (f2 _ (by omega)).trans hC8
  have hC9 := (f2 _ (by omega)).trans hC9
  have hC10 := (f2 _ (by omega)).trans hC10
  have hfr : ∀ i, i < 699 → ct31 i = ct0 i := fun i hi => (f2 i (by omega)).trans (hfr i hi)
  have hz0 : put ad21 1999 710 699 = ad0 699 := (put_n (by decide)).trans hA0
  have hu9 : ∀ i, i ≤ 699 ∨ 2000 ≤ i → put ad21 1999 710 i = ad0 i := fun i hi => (put_n (by omega)).trans (hku i (by omega))
  have hn9 : nW (put ad21 1999 710) = 710 := put_s _ _ _
  have hs9 : ∀ i, i < 711 ∨ 2000 ≤ i → put ad21 1999 710 i = ad21 i := fun i hi => put_n (by omega)
  refine rc_enter (n0 := 699) (n1 := 710) (M := (mMod M)) E (by decide) (by decide) (by decide +kernel) hku ?_ (fun hA9 E => ?_)
  · intro k hk
    by_cases k1 : k < 699
    · rw [show ct31 k = ct0 k from hfr k (by omega), hct0 k k1, show mMod M k = M k from if_pos k1]
      exact hce0 _ k k1 (fun i hi => hu9 i (by omega))
    by_cases k2 : k = 699
    · subst k2
      refine Or.inl (hC0.trans ?_)
      rw [cel_699]
      show _ = (.inr (9, [.ref (put ad21 1999 710 700), .ref (put ad21 1999 710 701), .ref (put ad21 1999 710 702), .ref (put ad21 1999 710 703), .ref (put ad21 1999 710 704), .ref (put ad21 1999 710 705), .ref (put ad21 1999 710 (700 + (0 : Int32).toNatClampNeg)), .int 0, .int 0, .int 0, .int 0, .int (bz 0), .ref (put ad21 1999 710 706), .int 0, .ref (put ad21 1999 710 707), .int 0, .int 0, .int 0, .int 0, .int 0, .int 0, .int 0, .int (-1), .int 0, .ref (put ad21 1999 710 708), .ref (put ad21 1999 710 709), .int 0, .int 0]) : va_E)
      rw [bz_0, show put ad21 1999 710 (700 + (0 : Int32).toNatClampNeg) = a1 from (hs9 700 (by decide)).trans hA1, show put ad21 1999 710 700 = a1 from (hs9 700 (by decide)).trans hA1, show put ad21 1999 710 701 = a2 from (hs9 701 (by decide)).trans hA2, show put ad21 1999 710 702 = a3 from (hs9 702 (by decide)).trans hA3, show put ad21 1999 710 703 = a4 from (hs9 703 (by decide)).trans hA4, show put ad21 1999 710 704 = a5 from (hs9 704 (by decide)).trans hA5, show put ad21 1999 710 705 = a6 from (hs9 705 (by decide)).trans hA6, show put ad21 1999 710 706 = a7 from (hs9 706 (by decide)).trans hA7, show put ad21 1999 710 707 = a8 from (hs9 707 (by decide)).trans hA8, show put ad21 1999 710 708 = a9 from (hs9 708 (by decide)).trans hA9, show put ad21 1999 710 709 = a10 from (hs9 709 (by decide)).trans hA10]
    rcases (show k = 700 ∨ k = 701 ∨ k = 702 ∨ k = 703 ∨ k = 704 ∨ k = 705 ∨ k = 706 ∨ k = 707 ∨ k = 708 ∨ k = 709 by omega) with rfl | rfl | rfl | rfl | rfl | rfl | rfl | rfl | rfl | rfl
    · exact Or.inl hC1
    · exact Or.inl hC2
    · exact Or.inl hC3
    · exact Or.inl hC4
    · exact Or.inl hC5
    · exact Or.inl hC6
    · exact Or.inl hC7
    · exact Or.inl hC8
    · exact Or.inl hC9
    · refine Or.inr ⟨tc 8, 9, (va_up (va_up (va_up (va_up (va_up (va_up (va_up (va_up (va_up (fun _ => none) 0 (some (ad0 (2200 + 0)))) 1 (some (ad0 (2200 + 1)))) 2 (some (ad0 (2200 + 2)))) 3 (some (ad0 (2200 + 3)))) 4 (some (ad0 (2200 + 4)))) 5 (some (ad0 (2200 + 5)))) 6 (some (ad0 (2200 + 6)))) 7 (some (ad0 (2200 + 7)))) 8 (some (ad0 (2200 + 8)))), fun j => some (put ad21 1999 710 (2200 + j)), hC10, rfl, fun j hj => ?_⟩
      show (va_up (va_up (va_up (va_up (va_up (va_up (va_up (va_up (va_up (fun _ => none) 0 (some (ad0 (2200 + 0)))) 1 (some (ad0 (2200 + 1)))) 2 (some (ad0 (2200 + 2)))) 3 (some (ad0 (2200 + 3)))) 4 (some (ad0 (2200 + 4)))) 5 (some (ad0 (2200 + 5)))) 6 (some (ad0 (2200 + 6)))) 7 (some (ad0 (2200 + 7)))) 8 (some (ad0 (2200 + 8)))) j = some (put ad21 1999 710 (2200 + j))
      rw [hu9 (2200 + j) (by omega)]
      rcases (show j = 0 ∨ j = 1 ∨ j = 2 ∨ j = 3 ∨ j = 4 ∨ j = 5 ∨ j = 6 ∨ j = 7 ∨ j = 8 by omega) with rfl | rfl | rfl | rfl | rfl | rfl | rfl | rfl | rfl <;> simp [va_up]
  · clear hs9
    generalize put ad21 1999 710 = ad at hz0 hu9 hn9 hA9 E ⊢
    have hL : ([(0, Value.ref (ad0 699))] : List (Nat × Value)) = [(0, .ref (ad 699))] := by rw [hz0]
    rw [hL]
    unfold f_X13_tail at h
    refine ra_aload_n E dX13_init_153 rfl 0 rfl ?_
    refine ra_bipush E dX13_init_154 kb_6 ?_
    refine ra_callVV (rest := []) E (c_X13_begin _ _ _ h) lq_13 cv_X13_begin ml_X13_68 (by decide) (lmM (by decide)) (fun R => ⟨_, cel_699 tc ad R⟩) rfl rfl rfl (Nat.le_of_ble_eq_true rfl) ⟨Nat.le_of_ble_eq_true rfl, Nat.le_of_ble_eq_true rfl⟩ ⟨Nat.le_of_ble_eq_true rfl, Nat.le_of_ble_eq_true rfl⟩ dX13_init_156 (fun M1 h => ?_)
    refine ra_aload_n E dX13_init_159 rfl 0 rfl ?_
    obtain ⟨g2, h⟩ := h
    refine gf_X13_6 E lm13 fl_X13_28 dX13_init_160 ?_
    refine ra_bipush E dX13_init_163 kb_11 ?_
    refine ra_iconst E dX13_init_165 ki_3 ?_
    obtain ⟨g3, h⟩ := h
    refine ra_iast E (lmM (isRow_of g2).lt) (cel_row tc ad (isRow_of g2)) g3 dX13_init_166 ?_
    replace h := h _ rfl
    refine ra_aload_n E dX13_init_167 rfl 0 rfl ?_
    obtain ⟨g5, h⟩ := h
    refine gf_X13_6 E lm13 fl_X13_28 dX13_init_168 ?_
    refine ra_bipush E dX13_init_171 kb_28 ?_
    refine ra_iconst E dX13_init_173 ki_4 ?_
    obtain ⟨g6, h⟩ := h
    refine ra_iast E (lmM (isRow_of g5).lt) (cel_row tc ad (isRow_of g5)) g6 dX13_init_174 ?_
    replace h := h _ rfl
    refine ra_aload_n E dX13_init_175 rfl 0 rfl ?_
    obtain ⟨g8, h⟩ := h
    refine gf_X13_6 E lm13 fl_X13_28 dX13_init_176 ?_
    refine ra_bipush E dX13_init_179 kb_14 ?_
    refine ra_iconst E dX13_init_181 ki_2 ?_
    obtain ⟨g9, h⟩ := h
    refine ra_iast E (lmM (isRow_of g8).lt) (cel_row tc ad (isRow_of g8)) g9 dX13_init_182 ?_
    replace h := h _ rfl
    refine ra_aload_n E dX13_init_183 rfl 0 rfl ?_
    refine ra_iconst E dX13_init_184 ki_0 ?_
    refine ra_iconst E dX13_init_185 ki_3 ?_
    refine ra_bipush E dX13_init_186 kb_10 ?_
    refine ra_bipush E dX13_init_188 kb_6 ?_
    refine ra_callVV (rest := []) E (c_X13_addBarge _ _ _ _ _ _ h) lq_13 cv_X13_addBarge ml_X13_72 (by decide) (lmM (by decide)) (fun R => ⟨_, cel_699 tc ad R⟩) rfl rfl rfl (Nat.le_of_ble_eq_true rfl) ⟨Nat.le_of_ble_eq_true rfl, Nat.le_of_ble_eq_true rfl⟩ ⟨Nat.le_of_ble_eq_true rfl, Nat.le_of_ble_eq_true rfl⟩ dX13_init_190 (fun M11 h => ?_)
    refine ra_aload_n E dX13_init_193 rfl 0 rfl ?_
    refine ra_iconst E dX13_init_194 ki_2 ?_
    refine ra_iconst E dX13_init_195 ki_5 ?_
    refine ra_iconst E dX13_init_196 ki_4 ?_
    refine ra_iconst E dX13_init_197 ki_2 ?_
    refine ra_callVV (rest := []) E (c_X13_addBarge _ _ _ _ _ _ h) lq_13 cv_X13_addBarge ml_X13_72 (by decide) (lmM (by decide)) (fun R => ⟨_, cel_699 tc ad R⟩) rfl rfl rfl (Nat.le_of_ble_eq_true rfl) ⟨Nat.le_of_ble_eq_true rfl, Nat.le_of_ble_eq_true rfl⟩ ⟨Nat.le_of_ble_eq_true rfl, Nat.le_of_ble_eq_true rfl⟩ dX13_init_198 (fun M12 h => ?_)
    refine ra_aload_n E dX13_init_201 rfl 0 rfl ?_
    refine ra_iconst E dX13_init_202 ki_2 ?_
    refine ra_iconst E dX13_init_203 ki_2 ?_
    refine ra_iconst E dX13_init_204 ki_3 ?_
    refine ra_bipush E dX13_init_205 kb_20 ?_
    refine ra_callVV (rest := []) E (c_X13_addOrder _ _ _ _ _ _ h) lq_13 cv_X13_addOrder ml_X13_76 (by decide) (lmM (by decide)) (fun R => ⟨_, cel_699 tc ad R⟩) rfl rfl rfl (Nat.le_of_ble_eq_true rfl) ⟨Nat.le_of_ble_eq_true rfl, Nat.le_of_ble_eq_true rfl⟩ ⟨Nat.le_of_ble_eq_true rfl, Nat.le_of_ble_eq_true rfl⟩ dX13_init_207 (fun M13 h => ?_)
    refine ra_aload_n E dX13_init_210 rfl 0 rfl ?_
    refine ra_iconst E dX13_init_211 ki_5 ?_
    refine ra_iconst E dX13_init_212 ki_1 ?_
    refine ra_iconst E dX13_init_213 ki_1 ?_
    refine ra_bipush E dX13_init_214 kb_30 ?_
    refine ra_callVV (rest := []) E (c_X13_addOrder _ _ _ _ _ _ h) lq_13 cv_X13_addOrder ml_X13_76 (by decide) (lmM (by decide)) (fun R => ⟨_, cel_699 tc ad R⟩) rfl rfl rfl (Nat.le_of_ble_eq_true rfl) ⟨Nat.le_of_ble_eq_true rfl, Nat.le_of_ble_eq_true rfl⟩ ⟨Nat.le_of_ble_eq_true rfl, Nat.le_of_ble_eq_true rfl⟩ dX13_init_216 (fun M14 h => ?_)
    refine ra_aload_n E dX13_init_219 rfl 0 rfl ?_
    refine ra_iconst E dX13_init_220 ki_1 ?_
    refine ra_iconst E dX13_init_221 ki_3 ?_
    refine ra_iconst E dX13_init_222 ki_2 ?_
    refine ra_bipush E dX13_init_223 kb_15 ?_
    refine ra_callVV (rest := []) E (c_X13_addOrder _ _ _ _ _ _ h) lq_13 cv_X13_addOrder ml_X13_76 (by decide) (lmM (by decide)) (fun R => ⟨_, cel_699 tc ad R⟩) rfl rfl rfl (Nat.le_of_ble_eq_true rfl) ⟨Nat.le_of_ble_eq_true rfl, Nat.le_of_ble_eq_true rfl⟩ ⟨Nat.le_of_ble_eq_true rfl, Nat.le_of_ble_eq_true rfl⟩ dX13_init_225 (fun M15 h => ?_)
    exact rn_vret E hr hu9 hn9 hA9 ⟨Nat.le_of_ble_eq_true rfl, Nat.le_of_ble_eq_true rfl⟩ dX13_init_228 h
