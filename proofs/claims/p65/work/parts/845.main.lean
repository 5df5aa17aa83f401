theorem kc_X12_16 : Cond.classLink RX12 16 "NoodleCanal$Script" ∈ TS := TS_of (tin_1 _ (List.mem_of_getElem? (i := 73) (by decide +kernel))) (by decide +kernel)
theorem kc_X12_23 : Cond.classLink RX12 23 "NoodleCanal$History" ∈ TS := TS_of (tin_1 _ (List.mem_of_getElem? (i := 117) (by decide +kernel))) (by decide +kernel)
theorem kc_X12_30 : Cond.classLink RX12 30 "NoodleCanal$Canal" ∈ TS := TS_of (tin_2 _ (List.mem_of_getElem? (i := 80) (by decide +kernel))) (by decide +kernel)
theorem kc_X12_7 : Cond.classLink RX12 7 "NoodleCanal$TextInput" ∈ TS := TS_of (tin_1 _ (List.mem_of_getElem? (i := 39) (by decide +kernel))) (by decide +kernel)
theorem kb_31 : (Int8.ofInt 31).toInt32 = 31 := by decide +kernel
theorem FXc_dummy : True := trivial
def rMain (j : Nat) : Int32 := if j = 5 then 9 else if j = 6 then 10 else 0
/-- the class's numbers when its fields are made -/
def mMain (k : Nat) : Nat → Int32 := if k = 0 then rMain else if k = 1 then rT else if k < 5 then r0 else if k < 25 then rCm else if k < 27 then r0 else if k < 698 then mC ((k - 27) % 61) else r0
def rMod (j : Nat) : Int32 := if j = 22 then -1 else 0
def mMod (M : Nat → Nat → Int32) (k : Nat) : Nat → Int32 := if k < 699 then M k else if k = 699 then rMod else r0
/-- a canal's block in the world -/
theorem eqv_FX2 {tc : Nat → ClassId} {ad ad' : Nat → Nat} {b c r : Nat} (hb : b = 27 + 61 * c) (hc : c < 11) (hr : r ≤ 60) (h : ∀ i, i < 711 ∨ 2000 ≤ i → ad' i = ad i) {R : Nat → Int32} (hR : R = mC r) : Eqv (FX2 tc ad b r) (cel tc ad' (b + r) R) := by
  subst hR
  rw [cel_mid tc ad' (by omega) (by omega), show (b + r - 27) % 61 = r by omega, ← FX2_congr tc ad ad' b r hr (fun k hk => h k (by omega))]
  unfold FX2
  by_cases h1 : r = 1
  · subst h1
    rw [if_pos rfl]
    refine Or.inr ⟨_, _, _, _, rfl, rfl, fun j hj => ?_⟩
    rw [show tr 15 (fun j => ad' (b + 6 + j)) j = some (ad' (b + 6 + j)) from if_pos hj, show b + 6 + j = b + 1 + 5 + j by omega]
  rw [if_neg h1]
  by_cases h4 : r = 4
  · subst h4
    rw [if_pos rfl]
    refine Or.inr ⟨_, _, _, _, rfl, rfl, fun j hj => ?_⟩
    rw [show tr 5 (fun j => ad' (b + 21 + 2 * j)) j = some (ad' (b + 21 + 2 * j)) from if_pos hj, show b + 21 + 2 * j = b + 4 + 17 + 2 * j by omega]
  rw [if_neg h4]
  by_cases h5 : r = 5
  · subst h5
    rw [if_pos rfl]
    refine Or.inr ⟨_, _, _, _, rfl, rfl, fun j hj => ?_⟩
    rw [show tr 30 (fun j => ad' (b + 31 + j)) j = some (ad' (b + 31 + j)) from if_pos hj, show b + 31 + j = b + 5 + 26 + j by omega]
  rw [if_neg h5]
  exact Eqv.rf _
def f_X12_tail (M : TM) (K : TM → Prop) : Prop := f_X10_appendSigns 13 M (fun M1 => f_J0_length_8abf5 13 M1 (fun r3 M2 => f_X10_begin r3 M2 (fun M4 => vp_in (M4 0 5) 11 ∧ f_X3_parse (27 + 61 * (M4 0 5).toNatClampNeg) M4 (fun M6 => f_X10_empty M6 (fun M7 => K M7)))))
set_option maxRecDepth 100000 in
set_option maxHeartbeats 8000000 in
theorem c_X12_init (K : TM → Prop) (h : f_X12_tail mMain K) : MN yX12_init cX12_init 1 7 698 5599 0 699 (.inr (8, [.null, .null, .null, .null, .int 0, .null, .null, .null, .int 0])) (fun _ _ => 0) K := by
  refine MN_of RX12 rfl (by decide +kernel) rfl (Nat.le_of_ble_eq_true rfl) (fun p l e s m below meth c D tc ad0 ct0 _ _ hfr0 E hr => ?_)
  have hA0 : ad0 0 = ad0 0 := rfl
  have hC0 := hfr0
  have hku : ∀ i, i ≤ 0 ∨ 1000 ≤ i → ad0 i = ad0 i := fun _ _ => rfl
  have hfr : ∀ i, i < 0 → ct0 i = ct0 i := fun _ _ => rfl
  refine rc_aload_n E dX12_init_0 rfl 0 rfl ?_
  refine rc_obj E mo_X12_1 ⟨Nat.le_of_ble_eq_true rfl, Nat.le_of_ble_eq_true rfl⟩ dX12_init_1 ?_
  refine rc_aload_n E dX12_init_4 rfl 0 rfl ?_
  refine rc_new (ci := 7) (fs := [.null, .int 0, .int 0, .int 0, .int 0, .int 0, .int 0, .int 0]) (N := 8) E rfl iT_10 tyX10 tyX10_ok kc_X12_7 ki_X10 kn_X10 (fun j hj => by rcases (show j = 0 ∨ j = 1 ∨ j = 2 ∨ j = 3 ∨ j = 4 ∨ j = 5 ∨ j = 6 ∨ j = 7 by omega) with rfl | rfl | rfl | rfl | rfl | rfl | rfl | rfl <;> rfl) ⟨Nat.le_of_ble_eq_true rfl, Nat.le_of_ble_eq_true rfl⟩ dX12_init_5 (fun a1 ad1 ct1 f0 f1 f2 f3 => ?_)
  have hA1 : ad1 1 = a1 := f0
  have hC1 : ct1 1 = .inr (7, [.null, .int 0, .int 0, .int 0, .int 0, .int 0, .int 0, .int 0]) := f2
  have hA0 := (f1 _ (by omega)).trans hA0
  have hku : ∀ i, i ≤ 0 ∨ 1000 ≤ i → ad1 i = ad0 i := fun i hi => (f1 i (by omega)).trans (hku i hi)
  have hC0 := (f3 _ (by omega)).trans hC0
  have hfr : ∀ i, i < 0 → ct1 i = ct0 i := fun i hi => (f3 i (by omega)).trans (hfr i hi)
  refine rc_dup E dX12_init_8 rfl ?_
  refine rc_initN (host := "NoodleCanal") (k0 := 1) E (fun i hi => hku i (Or.inr hi)) c_X10_init cd_X10_init cn_X10_init (E.2.2.2.2.2.2.2.1.2.2.2 ("NoodleCanal", 9, ⟨"NoodleCanal$TextInput", "<init>", "()V"⟩) (by decide +kernel)) rfl hA1 hC1 (by decide) (by decide) (Nat.le_of_ble_eq_true rfl) ⟨Nat.le_of_ble_eq_true rfl, Nat.le_of_ble_eq_true rfl⟩ ⟨Nat.le_of_ble_eq_true rfl, Nat.le_of_ble_eq_true rfl⟩ dX12_init_9 (fun ad2 ct2 g1 g2 g3 => ?_)
  have hA0 := (g1 0 (by omega)).trans hA0
  have hA1 := (g1 1 (by omega)).trans hA1
  have hC0 := (g2 0 (by omega)).trans hC0
  have hku : ∀ i, i ≤ 0 ∨ 1000 ≤ i → ad2 i = ad0 i := fun i hi => (g1 i (by omega)).trans (hku i hi)
  have hfr : ∀ i, i < 0 → ct2 i = ct0 i := fun i hi => (g2 i (by omega)).trans (hfr i hi)
  have hR1 : ∀ r, r ≤ 1 → ct2 (1 + r) = FX10 tc ad2 1 r := g3
  refine rc_putF (k := 0) E (C := RX12) (T := TX12) (N := 9) (j := 0) (fs := [.null, .null, .null, .null, .int 0, .null, .null, .null, .int 0]) (ci := 8) (by omega) hA0 hC0 rfl iT_12 tyX12 tyX12_ok nmX12 (by decide) fl_X12_10 rfl rfl rfl (tyX12_ok 0 (by decide)) rfl rfl (Nat.le_of_ble_eq_true rfl) dX12_init_12 (fun ct3 f1 f2 => ?_)
  have hC0 : ct3 0 = .inr (8, [.ref a1, .null, .null, .null, .int 0, .null, .null, .null, .int 0]) := f1
  have hfr : ∀ i, i < 0 → ct3 i = ct0 i := fun i hi => (f2 i (by omega)).trans (hfr i hi)
  have hR1 := fun r (hr : r ≤ 1) => (f2 (1 + r) (by omega)).trans (hR1 r hr)
  refine rc_aload_n E dX12_init_15 rfl 0 rfl ?_
  refine rc_new (ci := 5) (fs := [.null, .int 0, .int 0]) (N := 3) E rfl iT_8 tyX8 tyX8_ok kc_X12_16 ki_X8 kn_X8 (fun j hj => by rcases (show j = 0 ∨ j = 1 ∨ j = 2 by omega) with rfl | rfl | rfl <;> rfl) ⟨Nat.le_of_ble_eq_true rfl, Nat.le_of_ble_eq_true rfl⟩ dX12_init_16 (fun a3 ad4 ct4 f0 f1 f2 f3 => ?_)
  have hA3 : ad4 3 = a3 := f0
  have hC3 : ct4 3 = .inr (5, [.null, .int 0, .int 0]) := f2
  have hA0 := (f1 _ (by omega)).trans hA0
  have hA1 := (f1 _ (by omega)).trans hA1
  have hku : ∀ i, i ≤ 0 ∨ 1000 ≤ i → ad4 i = ad0 i := fun i hi => (f1 i (by omega)).trans (hku i hi)
  have hC0 := (f3 _ (by omega)).trans hC0
  have hfr : ∀ i, i < 0 → ct4 i = ct0 i := fun i hi => (f3 i (by omega)).trans (hfr i hi)
  have hR1 := fun r (hr : r ≤ 1) => (f3 (1 + r) (by omega)).trans (hR1 r hr)
  have hR1 := fun r (hr : r ≤ 1) => (hR1 r hr).trans (FX10_congr tc ad2 ad4 1 r hr (fun k hk => f1 k (by omega))).symm
  refine rc_dup E dX12_init_19 rfl ?_
  refine rc_init (k0 := 3) E (fun i hi => hku i (Or.inr hi)) c_X8_init cd_X8_init cn_X8_init mi_X12_18 rfl hA3 hC3 (by decide) (by decide) (Nat.le_of_ble_eq_true rfl) ⟨Nat.le_of_ble_eq_true rfl, Nat.le_of_ble_eq_true rfl⟩ ⟨Nat.le_of_ble_eq_true rfl, Nat.le_of_ble_eq_true rfl⟩ dX12_init_20 (fun ad5 ct5 g1 g2 g3 => ?_)
  have hA0 := (g1 0 (by omega)).trans hA0
  have hA1 := (g1 1 (by omega)).trans hA1
  have hA3 := (g1 3 (by omega)).trans hA3
  have hC0 := (g2 0 (by omega)).trans hC0
  have hR1 := fun r (hr : r ≤ 1) => (g2 (1 + r) (by omega)).trans ((hR1 r hr).trans (FX10_congr tc ad4 ad5 1 r hr (fun k hk => g1 k (by omega))).symm)
  have hku : ∀ i, i ≤ 0 ∨ 1000 ≤ i → ad5 i = ad0 i := fun i hi => (g1 i (by omega)).trans (hku i hi)
  have hfr : ∀ i, i < 0 → ct5 i = ct0 i := fun i hi => (g2 i (by omega)).trans (hfr i hi)
  have hR3 : ∀ r, r ≤ 21 → ct5 (3 + r) = FX8 tc ad5 3 r := g3
  refine rc_putF (k := 0) E (C := RX12) (T := TX12) (N := 9) (j := 1) (fs := [.ref a1, .null, .null, .null, .int 0, .null, .null, .null, .int 0]) (ci := 8) (by omega) hA0 hC0 rfl iT_12 tyX12 tyX12_ok nmX12 (by decide) fl_X12_19 rfl rfl rfl (tyX12_ok 1 (by decide)) rfl rfl (Nat.le_of_ble_eq_true rfl) dX12_init_23 (fun ct6 f1 f2 => ?_)
  have hC0 : ct6 0 = .inr (8, [.ref a1, .ref a3, .null, .null, .int 0, .null, .null, .null, .int 0]) := f1
  have hfr : ∀ i, i < 0 → ct6 i = ct0 i := fun i hi => (f2 i (by omega)).trans (hfr i hi)
  have hR1 := fun r (hr : r ≤ 1) => (f2 (1 + r) (by omega)).trans (hR1 r hr)
  have hR3 := fun r (hr : r ≤ 21) => (f2 (3 + r) (by omega)).trans (hR3 r hr)
  refine rc_aload_n E dX12_init_26 rfl 0 rfl ?_
  refine rc_new (ci := 3) (fs := [.null, .int 0, .int 0]) (N := 3) E rfl iT_5 tyX5 tyX5_ok kc_X12_23 ki_X5 kn_X5 (fun j hj => by rcases (show j = 0 ∨ j = 1 ∨ j = 2 by omega) with rfl | rfl | rfl <;> rfl) ⟨Nat.le_of_ble_eq_true rfl, Nat.le_of_ble_eq_true rfl⟩ dX12_init_27 (fun a25 ad7 ct7 f0 f1 f2 f3 => ?_)
  have hA25 : ad7 25 = a25 := f0
  have hC25 : ct7 25 = .inr (3, [.null, .int 0, .int 0]) := f2
  have hA0 := (f1 _ (by omega)).trans hA0
  have hA1 := (f1 _ (by omega)).trans hA1
  have hA3 := (f1 _ (by omega)).trans hA3
  have hku : ∀ i, i ≤ 0 ∨ 1000 ≤ i → ad7 i = ad0 i := fun i hi => (f1 i (by omega)).trans (hku i hi)
  have hC0 := (f3 _ (by omega)).trans hC0
  have hfr : ∀ i, i < 0 → ct7 i = ct0 i := fun i hi => (f3 i (by omega)).trans (hfr i hi)
  have hR1 := fun r (hr : r ≤ 1) => (f3 (1 + r) (by omega)).trans (hR1 r hr)
  have hR3 := fun r (hr : r ≤ 21) => (f3 (3 + r) (by omega)).trans (hR3 r hr)
  have hR1 := fun r (hr : r ≤ 1) => (hR1 r hr).trans (FX10_congr tc ad5 ad7 1 r hr (fun k hk => f1 k (by omega))).symm
  have hR3 := fun r (hr : r ≤ 21) => (hR3 r hr).trans (FX8_congr tc ad5 ad7 3 r hr (fun k hk => f1 k (by omega))).symm
  refine rc_dup E dX12_init_30 rfl ?_
  refine rc_init (k0 := 25) E (fun i hi => hku i (Or.inr hi)) c_X5_init cd_X5_init cn_X5_init mi_X12_25 rfl hA25 hC25 (by decide) (by decide) (Nat.le_of_ble_eq_true rfl) ⟨Nat.le_of_ble_eq_true rfl, Nat.le_of_ble_eq_true rfl⟩ ⟨Nat.le_of_ble_eq_true rfl, Nat.le_of_ble_eq_true rfl⟩ dX12_init_31 (fun ad8 ct8 g1 g2 g3 => ?_)
  have hA0 := (g1 0 (by omega)).trans hA0
  have hA1 := (g1 1 (by omega)).trans hA1
  have hA3 := (g1 3 (by omega)).trans hA3
  have hA25 := (g1 25 (by omega)).trans hA25
  have hC0 := (g2 0 (by omega)).trans hC0
  have hR1 := fun r (hr : r ≤ 1) => (g2 (1 + r) (by omega)).trans ((hR1 r hr).trans (FX10_congr tc ad7 ad8 1 r hr (fun k hk => g1 k (by omega))).symm)
  have hR3 := fun r (hr : r ≤ 21) => (g2 (3 + r) (by omega)).trans ((hR3 r hr).trans (FX8_congr tc ad7 ad8 3 r hr (fun k hk => g1 k (by omega))).symm)
  have hku : ∀ i, i ≤ 0 ∨ 1000 ≤ i → ad8 i = ad0 i := fun i hi => (g1 i (by omega)).trans (hku i hi)
  have hfr : ∀ i, i < 0 → ct8 i = ct0 i := fun i hi => (g2 i (by omega)).trans (hfr i hi)
  have hR25 : ∀ r, r ≤ 489 → ct8 (25 + r) = FX5 tc ad8 25 r := g3
  refine rc_putF (k := 0) E (C := RX12) (T := TX12) (N := 9) (j := 2) (fs := [.ref a1, .ref a3, .null, .null, .int 0, .null, .null, .null, .int 0]) (ci := 8) (by omega) hA0 hC0 rfl iT_12 tyX12 tyX12_ok nmX12 (by decide) fl_X12_26 rfl rfl rfl (tyX12_ok 2 (by decide)) rfl rfl (Nat.le_of_ble_eq_true rfl) dX12_init_34 (fun ct9 f1 f2 => ?_)
  have hC0 : ct9 0 = .inr (8, [.ref a1, .ref a3, .ref a25, .null, .int 0, .null, .null, .null, .int 0]) := f1
  have hfr : ∀ i, i < 0 → ct9 i = ct0 i := fun i hi => (f2 i (by omega)).trans (hfr i hi)
  have hR1 := fun r (hr : r ≤ 1) => (f2 (1 + r) (by omega)).trans (hR1 r hr)
  have hR3 := fun r (hr : r ≤ 21) => (f2 (3 + r) (by omega)).trans (hR3 r hr)
  have hR25 := fun r (hr : r ≤ 489) => (f2 (25 + r) (by omega)).trans (hR25 r hr)
  refine rc_aload_n E dX12_init_37 rfl 0 rfl ?_
  refine rc_new (ci := 1) (fs := [.int 0, .null, .null, .null, .int 0, .null, .int 0, .null, .int 0, .int 0, .int 0, .int 0, .int 0, .int 0]) (N := 14) E rfl iT_2 tyX2 tyX2_ok kc_X12_30 ki_X2 kn_X2 (fun j hj => by rcases (show j = 0 ∨ j = 1 ∨ j = 2 ∨ j = 3 ∨ j = 4 ∨ j = 5 ∨ j = 6 ∨ j = 7 ∨ j = 8 ∨ j = 9 ∨ j = 10 ∨ j = 11 ∨ j = 12 ∨ j = 13 by omega) with rfl | rfl | rfl | rfl | rfl | rfl | rfl | rfl | rfl | rfl | rfl | rfl | rfl | rfl <;> rfl) ⟨Nat.le_of_ble_eq_true rfl, Nat.le_of_ble_eq_true rfl⟩ dX12_init_38 (fun a515 ad10 ct10 f0 f1 f2 f3 => ?_)
  have hA515 : ad10 515 = a515 := f0
  have hC515 : ct10 515 = .inr (1, [.int 0, .null, .null, .null, .int 0, .null, .int 0, .null, .int 0, .int 0, .int 0, .int 0, .int 0, .int 0]) := f2
  have hA0 := (f1 _ (by omega)).trans hA0
  have hA1 := (f1 _ (by omega)).trans hA1
  have hA3 := (f1 _ (by omega)).trans hA3
  have hA25 := (f1 _ (by omega)).trans hA25
  have hku : ∀ i, i ≤ 0 ∨ 1000 ≤ i → ad10 i = ad0 i := fun i hi => (f1 i (by omega)).trans (hku i hi)
  have hC0 := (f3 _ (by omega)).trans hC0
  have hfr : ∀ i, i < 0 → ct10 i = ct0 i := fun i hi => (f3 i (by omega)).trans (hfr i hi)
  have hR1 := fun r (hr : r ≤ 1) => (f3 (1 + r) (by omega)).trans (hR1 r hr)
  have hR3 := fun r (hr : r ≤ 21) => (f3 (3 + r) (by omega)).trans (hR3 r hr)
  have hR25 := fun r (hr : r ≤ 489) => (f3 (25 + r) (by omega)).trans (hR25 r hr)
  have hR1 := fun r (hr : r ≤ 1) => (hR1 r hr).trans (FX10_congr tc ad8 ad10 1 r hr (fun k hk => f1 k (by omega))).symm
  have hR3 := fun r (hr : r ≤ 21) => (hR3 r hr).trans (FX8_congr tc ad8 ad10 3 r hr (fun k hk => f1 k (by omega))).symm
  have hR25 := fun r (hr : r ≤ 489) => (hR25 r hr).trans (FX5_congr tc ad8 ad10 25 r hr (fun k hk => f1 k (by omega))).symm
  refine rc_dup E dX12_init_41 rfl ?_
  refine rc_init (k0 := 515) E (fun i hi => hku i (Or.inr hi)) c_X2_init cd_X2_init cn_X2_init mi_X12_32 rfl hA515 hC515 (by decide) (by decide) (Nat.le_of_ble_eq_true rfl) ⟨Nat.le_of_ble_eq_true rfl, Nat.le_of_ble_eq_true rfl⟩ ⟨Nat.le_of_ble_eq_true rfl, Nat.le_of_ble_eq_true rfl⟩ dX12_init_42 (fun ad11 ct11 g1 g2 g3 => ?_)
  have hA0 := (g1 0 (by omega)).trans hA0
  have hA1 := (g1 1 (by omega)).trans hA1
  have hA3 := (g1 3 (by omega)).trans hA3
  have hA25 := (g1 25 (by omega)).trans hA25
  have hA515 := (g1 515 (by omega)).trans hA515
  have hC0 := (g2 0 (by omega)).trans hC0
  have hR1 := fun r (hr : r ≤ 1) => (g2 (1 + r) (by omega)).trans ((hR1 r hr).trans (FX10_congr tc ad10 ad11 1 r hr (fun k hk => g1 k (by omega))).symm)
  have hR3 := fun r (hr : r ≤ 21) => (g2 (3 + r) (by omega)).trans ((hR3 r hr).trans (FX8_congr tc ad10 ad11 3 r hr (fun k hk => g1 k (by omega))).symm)
  have hR25 := fun r (hr : r ≤ 489) => (g2 (25 + r) (by omega)).trans ((hR25 r hr).trans (FX5_congr tc ad10 ad11 25 r hr (fun k hk => g1 k (by omega))).symm)
  have hku : ∀ i, i ≤ 0 ∨ 1000 ≤ i → ad11 i = ad0 i := fun i hi => (g1 i (by omega)).trans (hku i hi)
  have hfr : ∀ i, i < 0 → ct11 i = ct0 i := fun i hi => (g2 i (by omega)).trans (hfr i hi)
  have hR515 : ∀ r, r ≤ 60 → ct11 (515 + r) = FX2 tc ad11 515 r := g3
  refine rc_putF (k := 0) E (C := RX12) (T := TX12) (N := 9) (j := 3) (fs := [.ref a1, .ref a3, .ref a25, .null, .int 0, .null, .null, .null, .int 0]) (ci := 8) (by omega) hA0 hC0 rfl iT_12 tyX12 tyX12_ok nmX12 (by decide) fl_X12_33 rfl rfl rfl (tyX12_ok 3 (by decide)) rfl rfl (Nat.le_of_ble_eq_true rfl) dX12_init_45 (fun ct12 f1 f2 => ?_)
  have hC0 : ct12 0 = .inr (8, [.ref a1, .ref a3, .ref a25, .ref a515, .int 0, .null, .null, .null, .int 0]) := f1
  have hfr : ∀ i, i < 0 → ct12 i = ct0 i := fun i hi => (f2 i (by omega)).trans (hfr i hi)
  have hR1 := fun r (hr : r ≤ 1) => (f2 (1 + r) (by omega)).trans (hR1 r hr)
  have hR3 := fun r (hr : r ≤ 21) => (f2 (3 + r) (by omega)).trans (hR3 r hr)
  have hR25 := fun r (hr : r ≤ 489) => (f2 (25 + r) (by omega)).trans (hR25 r hr)
  have hR515 := fun r (hr : r ≤ 60) => (f2 (515 + r) (by omega)).trans (hR515 r hr)
  refine rc_aload_n E dX12_init_48 rfl 0 rfl ?_
  refine rc_iconst E dX12_init_49 ki_0 ?_
  refine rc_put (k := 0) E (C := RX12) (T := TX12) (N := 9) (j := 4) (fs := [.ref a1, .ref a3, .ref a25, .ref a515, .int 0, .null, .null, .null, .int 0]) (ci := 8) (by omega) hA0 hC0 rfl iT_12 tyX12 tyX12_ok nmX12 (by decide) fl_X12_37 rfl rfl (tyX12_ok 4 (by decide)) rfl rfl (Nat.le_of_ble_eq_true rfl) dX12_init_50 (fun ct13 f1 f2 => ?_)
  have hC0 : ct13 0 = .inr (8, [.ref a1, .ref a3, .ref a25, .ref a515, .int (0 : Int32), .null, .null, .null, .int 0]) := f1
  have hfr : ∀ i, i < 0 → ct13 i = ct0 i := fun i hi => (f2 i (by omega)).trans (hfr i hi)
  have hR1 := fun r (hr : r ≤ 1) => (f2 (1 + r) (by omega)).trans (hR1 r hr)
  have hR3 := fun r (hr : r ≤ 21) => (f2 (3 + r) (by omega)).trans (hR3 r hr)
  have hR25 := fun r (hr : r ≤ 489) => (f2 (25 + r) (by omega)).trans (hR25 r hr)
  have hR515 := fun r (hr : r ≤ 60) => (f2 (515 + r) (by omega)).trans (hR515 r hr)
  refine rc_aload_n E dX12_init_53 rfl 0 rfl ?_
  refine rc_new (ci := 1) (fs := [.int 0, .null, .null, .null, .int 0, .null, .int 0, .null, .int 0, .int 0, .int 0, .int 0, .int 0, .int 0]) (N := 14) E rfl iT_2 tyX2 tyX2_ok kc_X12_30 ki_X2 kn_X2 (fun j hj => by rcases (show j = 0 ∨ j = 1 ∨ j = 2 ∨ j = 3 ∨ j = 4 ∨ j = 5 ∨ j = 6 ∨ j = 7 ∨ j = 8 ∨ j = 9 ∨ j = 10 ∨ j = 11 ∨ j = 12 ∨ j = 13 by omega) with rfl | rfl | rfl | rfl | rfl | rfl | rfl | rfl | rfl | rfl | rfl | rfl | rfl | rfl <;> rfl) ⟨Nat.le_of_ble_eq_true rfl, Nat.le_of_ble_eq_true rfl⟩ dX12_init_54 (fun a576 ad14 ct14 f0 f1 f2 f3 => ?_)
  have hA576 : ad14 576 = a576 := f0
  have hC576 : ct14 576 = .inr (1, [.int 0, .null, .null, .null, .int 0, .null, .int 0, .null, .int 0, .int 0, .int 0, .int 0, .int 0, .int 0]) := f2
  have hA0 := (f1 _ (by omega)).trans hA0
  have hA1 := (f1 _ (by omega)).trans hA1
  have hA3 := (f1 _ (by omega)).trans hA3
  have hA25 := (f1 _ (by omega)).trans hA25
  have hA515 := (f1 _ (by omega)).trans hA515
  have hku : ∀ i, i ≤ 0 ∨ 1000 ≤ i → ad14 i = ad0 i := fun i hi => (f1 i (by omega)).trans (hku i hi)
  have hC0 := (f3 _ (by omega)).trans hC0
  have hfr : ∀ i, i < 0 → ct14 i = ct0 i := fun i hi => (f3 i (by omega)).trans (hfr i hi)
  have hR1 := fun r (hr : r ≤ 1) => (f3 (1 + r) (by omega)).trans (hR1 r hr)
  have hR3 := fun r (hr : r ≤ 21) => (f3 (3 + r) (by omega)).trans (hR3 r hr)
  have hR25 := fun r (hr : r ≤ 489) => (f3 (25 + r) (by omega)).trans (hR25 r hr)
  have hR515 := fun r (hr : r ≤ 60) => (f3 (515 + r) (by omega)).trans (hR515 r hr)
  have hR1 := fun r (hr : r ≤ 1) => (hR1 r hr).trans (FX10_congr tc ad11 ad14 1 r hr (fun k hk => f1 k (by omega))).symm
  have hR3 := fun r (hr : r ≤ 21) => (hR3 r hr).trans (FX8_congr tc ad11 ad14 3 r hr (fun k hk => f1 k (by omega))).symm
  have hR25 := fun r (hr : r ≤ 489) => (hR25 r hr).trans (FX5_congr tc ad11 ad14 25 r hr (fun k hk => f1 k (by omega))).symm
  have hR515 := fun r (hr : r ≤ 60) => (hR515 r hr).trans (FX2_congr tc ad11 ad14 515 r hr (fun k hk => f1 k (by omega))).symm
  refine rc_dup E dX12_init_57 rfl ?_
  refine rc_init (k0 := 576) E (fun i hi => hku i (Or.inr hi)) c_X2_init cd_X2_init cn_X2_init mi_X12_32 rfl hA576 hC576 (by decide) (by decide) (Nat.le_of_ble_eq_true rfl) ⟨Nat.le_of_ble_eq_true rfl, Nat.le_of_ble_eq_true rfl⟩ ⟨Nat.le_of_ble_eq_true rfl, Nat.le_of_ble_eq_true rfl⟩ dX12_init_58 (fun ad15 ct15 g1 g2 g3 => ?_)
  have hA0 := (g1 0 (by omega)).trans hA0
  have hA1 := (g1 1 (by omega)).trans hA1
  have hA3 := (g1 3 (by omega)).trans hA3
  have hA25 := (g1 25 (by omega)).trans hA25
  have hA515 := (g1 515 (by omega)).trans hA515
  have hA576 := (g1 576 (by omega)).trans hA576
  have hC0 := (g2 0 (by omega)).trans hC0
  have hR1 := fun r (hr : r ≤ 1) => (g2 (1 + r) (by omega)).trans ((hR1 r hr).trans (FX10_congr tc ad14 ad15 1 r hr (fun k hk => g1 k (by omega))).symm)
  have hR3 := fun r (hr : r ≤ 21) => (g2 (3 + r) (by omega)).trans ((hR3 r hr).trans (FX8_congr tc ad14 ad15 3 r hr (fun k hk => g1 k (by omega))).symm)
  have hR25 := fun r (hr : r ≤ 489) => (g2 (25 + r) (by omega)).trans ((hR25 r hr).trans (FX5_congr tc ad14 ad15 25 r hr (fun k hk => g1 k (by omega))).symm)
  have hR515 := fun r (hr : r ≤ 60) => (g2 (515 + r) (by omega)).trans ((hR515 r hr).trans (FX2_congr tc ad14 ad15 515 r hr (fun k hk => g1 k (by omega))).symm)
  have hku : ∀ i, i ≤ 0 ∨ 1000 ≤ i → ad15 i = ad0 i := fun i hi => (g1 i (by omega)).trans (hku i hi)
  have hfr : ∀ i, i < 0 → ct15 i = ct0 i := fun i hi => (g2 i (by omega)).trans (hfr i hi)
  have hR576 : ∀ r, r ≤ 60 → ct15 (576 + r) = FX2 tc ad15 576 r := g3
  refine rc_put (k := 0) E (C := RX12) (T := TX12) (N := 9) (j := 5) (fs := [.ref a1, .ref a3, .ref a25, .ref a515, .int (0 : Int32), .null, .null, .null, .int 0]) (ci := 8) (by omega) hA0 hC0 rfl iT_12 tyX12 tyX12_ok nmX12 (by decide) fl_X12_41 rfl rfl (tyX12_ok 5 (by decide)) rfl rfl (Nat.le_of_ble_eq_true rfl) dX12_init_61 (fun ct16 f1 f2 => ?_)
  have hC0 : ct16 0 = .inr (8, [.ref a1, .ref a3, .ref a25, .ref a515, .int (0 : Int32), .ref a576, .null, .null, .int 0]) := f1
  have hfr : ∀ i, i < 0 → ct16 i = ct0 i := fun i hi => (f2 i (by omega)).trans (hfr i hi)
  have hR1 := fun r (hr : r ≤ 1) => (f2 (1 + r) (by omega)).trans (hR1 r hr)
  have hR3 := fun r (hr : r ≤ 21) => (f2 (3 + r) (by omega)).trans (hR3 r hr)
  have hR25 := fun r (hr : r ≤ 489) => (f2 (25 + r) (by omega)).trans (hR25 r hr)
  have hR515 := fun r (hr : r ≤ 60) => (f2 (515 + r) (by omega)).trans (hR515 r hr)
  have hR576 := fun r (hr : r ≤ 60) => (f2 (576 + r) (by omega)).trans (hR576 r hr)
  refine rc_aload_n E dX12_init_64 rfl 0 rfl ?_
  refine rc_new (ci := 1) (fs := [.int 0, .null, .null, .null, .int 0, .null, .int 0, .null, .int 0, .int 0, .int 0, .int 0, .int 0, .int 0]) (N := 14) E rfl iT_2 tyX2 tyX2_ok kc_X12_30 ki_X2 kn_X2 (fun j hj => by rcases (show j = 0 ∨ j = 1 ∨ j = 2 ∨ j = 3 ∨ j = 4 ∨ j = 5 ∨ j = 6 ∨ j = 7 ∨ j = 8 ∨ j = 9 ∨ j = 10 ∨ j = 11 ∨ j = 12 ∨ j = 13 by omega) with rfl | rfl | rfl | rfl | rfl | rfl | rfl | rfl | rfl | rfl | rfl | rfl | rfl | rfl <;> rfl) ⟨Nat.le_of_ble_eq_true rfl, Nat.le_of_ble_eq_true rfl⟩ dX12_init_65 (fun a637 ad17 ct17 f0 f1 f2 f3 => ?_)
  have hA637 : ad17 637 = a637 := f0
  have hC637 : ct17 637 = .inr (1, [.int 0, .null, .null, .null, .int 0, .null, .int 0, .null, .int 0, .int 0, .int 0, .int 0, .int 0, .int 0]) := f2
  have hA0 := (f1 _ (by omega)).trans hA0
  have hA1 := (f1 _ (by omega)).trans hA1
  have hA3 := (f1 _ (by omega)).trans hA3
  have hA25 := (f1 _ (by omega)).trans hA25
  have hA515 := (f1 _ (by omega)).trans hA515
  have hA576 := (f1 _ (by omega)).trans hA576
  have hku : ∀ i, i ≤ 0 ∨ 1000 ≤ i → ad17 i = ad0 i := fun i hi => (f1 i (by omega)).trans (hku i hi)
  have hC0 := (f3 _ (by omega)).trans hC0
  have hfr : ∀ i, i < 0 → ct17 i = ct0 i := fun i hi => (f3 i (by omega)).trans (hfr i hi)
  have hR1 := fun r (hr : r ≤ 1) => (f3 (1 + r) (by omega)).trans (hR1 r hr)
  have hR3 := fun r (hr : r ≤ 21) => (f3 (3 + r) (by omega)).trans (hR3 r hr)
  have hR25 := fun r (hr : r ≤ 489) => (f3 (25 + r) (by omega)).trans (hR25 r hr)
  have hR515 := fun r (hr : r ≤ 60) => (f3 (515 + r) (by omega)).trans (hR515 r hr)
  have hR576 := fun r (hr : r ≤ 60) => (f3 (576 + r) (by omega)).trans (hR576 r hr)
  have hR1 := fun r (hr : r ≤ 1) => (hR1 r hr).trans (FX10_congr tc ad15 ad17 1 r hr (fun k hk => f1 k (by omega))).symm
  have hR3 := fun r (hr : r ≤ 21) => (hR3 r hr).trans (FX8_congr tc ad15 ad17 3 r hr (fun k hk => f1 k (by omega))).symm
  have hR25 := fun r (hr : r ≤ 489) => (hR25 r hr).trans (FX5_congr tc ad15 ad17 25 r hr (fun k hk => f1 k (by omega))).symm
  have hR515 := fun r (hr : r ≤ 60) => (hR515 r hr).trans (FX2_congr tc ad15 ad17 515 r hr (fun k hk => f1 k (by omega))).symm
  have hR576 := fun r (hr : r ≤ 60) => (hR576 r hr).trans (FX2_congr tc ad15 ad17 576 r hr (fun k hk => f1 k (by omega))).symm
  refine rc_dup E dX12_init_68 rfl ?_
  refine rc_init (k0 := 637) E (fun i hi => hku i (Or.inr hi)) c_X2_init cd_X2_init cn_X2_init mi_X12_32 rfl hA637 hC637 (by decide) (by decide) (Nat.le_of_ble_eq_true rfl) ⟨Nat.le_of_ble_eq_true rfl, Nat.le_of_ble_eq_true rfl⟩ ⟨Nat.le_of_ble_eq_true rfl, Nat.le_of_ble_eq_true rfl⟩ dX12_init_69 (fun ad18 ct18 g1 g2 g3 => ?_)
  have hA0 := (g1 0 (by omega)).trans hA0
  have hA1 := (g1 1 (by omega)).trans hA1
  have hA3 := (g1 3 (by omega)).trans hA3
  have hA25 := (g1 25 (by omega)).trans hA25
  have hA515 := (g1 515 (by omega)).trans hA515
  have hA576 := (g1 576 (by omega)).trans hA576
  have hA637 := (g1 637 (by omega)).trans hA637
  have hC0 := (g2 0 (by omega)).trans hC0
  have hR1 := fun r (hr : r ≤ 1) => (g2 (1 + r) (by omega)).trans ((hR1 r hr).trans (FX10_congr tc ad17 ad18 1 r hr (fun k hk => g1 k (by omega))).symm)
  have hR3 := fun r (hr : r ≤ 21) => (g2 (3 + r) (by omega)).trans ((hR3 r hr).trans (FX8_congr tc ad17 ad18 3 r hr (fun k hk => g1 k (by omega))).symm)
  have hR25 := fun r (hr : r ≤ 489) => (g2 (25 + r) (by omega)).trans ((hR25 r hr).trans (FX5_congr tc ad17 ad18 25 r hr (fun k hk => g1 k (by omega))).symm)
  have hR515 := fun r (hr : r ≤ 60) => (g2 (515 + r) (by omega)).trans ((hR515 r hr).trans (FX2_congr tc ad17 ad18 515 r hr (fun k hk => g1 k (by omega))).symm)
  have hR576 := fun r (hr : r ≤ 60) => (g2 (576 + r) (by omega)).trans ((hR576 r hr).trans (FX2_congr tc ad17 ad18 576 r hr (fun k hk => g1 k (by omega))).symm)
  have hku : ∀ i, i ≤ 0 ∨ 1000 ≤ i → ad18 i = ad0 i := fun i hi => (g1 i (by omega)).trans (hku i hi)
  have hfr : ∀ i, i < 0 → ct18 i = ct0 i := fun i hi => (g2 i (by omega)).trans (hfr i hi)
  have hR637 : ∀ r, r ≤ 60 → ct18 (637 + r) = FX2 tc ad18 637 r := g3
  refine rc_put (k := 0) E (C := RX12) (T := TX12) (N := 9) (j := 6) (fs := [.ref a1, .ref a3, .ref a25, .ref a515, .int (0 : Int32), .ref a576, .null, .null, .int 0]) (ci := 8) (by omega) hA0 hC0 rfl iT_12 tyX12 tyX12_ok nmX12 (by decide) fl_X12_44 rfl rfl (tyX12_ok 6 (by decide)) rfl rfl (Nat.le_of_ble_eq_true rfl) dX12_init_72 (fun ct19 f1 f2 => ?_)
  have hC0 : ct19 0 = .inr (8, [.ref a1, .ref a3, .ref a25, .ref a515, .int (0 : Int32), .ref a576, .ref a637, .null, .int 0]) := f1
  have hfr : ∀ i, i < 0 → ct19 i = ct0 i := fun i hi => (f2 i (by omega)).trans (hfr i hi)
  have hR1 := fun r (hr : r ≤ 1) => (f2 (1 + r) (by omega)).trans (hR1 r hr)
  have hR3 := fun r (hr : r ≤ 21) => (f2 (3 + r) (by omega)).trans (hR3 r hr)
  have hR25 := fun r (hr : r ≤ 489) => (f2 (25 + r) (by omega)).trans (hR25 r hr)
  have hR515 := fun r (hr : r ≤ 60) => (f2 (515 + r) (by omega)).trans (hR515 r hr)
  have hR576 := fun r (hr : r ≤ 60) => (f2 (576 + r) (by omega)).trans (hR576 r hr)
  have hR637 := fun r (hr : r ≤ 60) => (f2 (637 + r) (by omega)).trans (hR637 r hr)
  refine rc_aload_n E dX12_init_75 rfl 0 rfl ?_
  refine rc_bipush E dX12_init_76 kb_31 ?_
  refine rc_newa_byte (N' := 31) E (by decide) rfl (Nat.le_of_ble_eq_true rfl) ⟨Nat.le_of_ble_eq_true rfl, Nat.le_of_ble_eq_true rfl⟩ dX12_init_78 (fun a698 ad20 ct20 f0 f1 f2 f3 => ?_)
  have hA698 : ad20 698 = a698 := f0
  have hC698 : ct20 698 = .inl (tc 0, 31, .inl (fun _ => 0)) := f2
  have hA0 := (f1 _ (by omega)).trans hA0
  have hA1 := (f1 _ (by omega)).trans hA1
  have hA3 := (f1 _ (by omega)).trans hA3
  have hA25 := (f1 _ (by omega)).trans hA25
  have hA515 := (f1 _ (by omega)).trans hA515
  have hA576 := (f1 _ (by omega)).trans hA576
  have hA637 := (f1 _ (by omega)).trans hA637
  have hku : ∀ i, i ≤ 0 ∨ 1000 ≤ i → ad20 i = ad0 i := fun i hi => (f1 i (by omega)).trans (hku i hi)
  have hC0 := (f3 _ (by omega)).trans hC0
  have hfr : ∀ i, i < 0 → ct20 i = ct0 i := fun i hi => (f3 i (by omega)).trans (hfr i hi)
  have hR1 := fun r (hr : r ≤ 1) => (f3 (1 + r) (by omega)).trans (hR1 r hr)
  have hR3 := fun r (hr : r ≤ 21) => (f3 (3 + r) (by omega)).trans (hR3 r hr)
  have hR25 := fun r (hr : r ≤ 489) => (f3 (25 + r) (by omega)).trans (hR25 r hr)
  have hR515 := fun r (hr : r ≤ 60) => (f3 (515 + r) (by omega)).trans (hR515 r hr)
  have hR576 := fun r (hr : r ≤ 60) => (f3 (576 + r) (by omega)).trans (hR576 r hr)
  have hR637 := fun r (hr : r ≤ 60) => (f3 (637 + r) (by omega)).trans (hR637 r hr)
  have hR1 := fun r (hr : r ≤ 1) => (hR1 r hr).trans (FX10_congr tc ad18 ad20 1 r hr (fun k hk => f1 k (by omega))).symm
  have hR3 := fun r (hr : r ≤ 21) => (hR3 r hr).trans (FX8_congr tc ad18 ad20 3 r hr (fun k hk => f1 k (by omega))).symm
  have hR25 := fun r (hr : r ≤ 489) => (hR25 r hr).trans (FX5_congr tc ad18 ad20 25 r hr (fun k hk => f1 k (by omega))).symm
  have hR515 := fun r (hr : r ≤ 60) => (hR515 r hr).trans (FX2_congr tc ad18 ad20 515 r hr (fun k hk => f1 k (by omega))).symm
  have hR576 := fun r (hr : r ≤ 60) => (hR576 r hr).trans (FX2_congr tc ad18 ad20 576 r hr (fun k hk => f1 k (by omega))).symm
  have hR637 := fun r (hr : r ≤ 60) => (hR637 r hr).trans (FX2_congr tc ad18 ad20 637 r hr (fun k hk => f1 k (by omega))).symm
  refine rc_putF (k := 0) E (C := RX12) (T := TX12) (N := 9) (j := 7) (fs := [.ref a1, .ref a3, .ref a25, .ref a515, .int (0 : Int32), .ref a576, .ref a637, .null, .int 0]) (ci := 8) (by omega) hA0 hC0 rfl iT_12 tyX12 tyX12_ok nmX12 (by decide) fl_X12_47 rfl rfl rfl (tyX12_ok 7 (by decide)) rfl rfl (Nat.le_of_ble_eq_true rfl) dX12_init_80 (fun ct21 f1 f2 => ?_)
  have hC0 : ct21 0 = .inr (8, [.ref a1, .ref a3, .ref a25, .ref a515, .int (0 : Int32), .ref a576, .ref a637, .ref a698, .int 0]) := f1
  have hC698 := (f2 _ (by omega)).trans hC698
  have hfr : ∀ i, i < 0 → ct21 i = ct0 i := fun i hi => (f2 i (by omega)).trans (hfr i hi)
  have hR1 := fun r (hr : r ≤ 1) => (f2 (1 + r) (by omega)).trans (hR1 r hr)
  have hR3 := fun r (hr : r ≤ 21) => (f2 (3 + r) (by omega)).trans (hR3 r hr)
  have hR25 := fun r (hr : r ≤ 489) => (f2 (25 + r) (by omega)).trans (hR25 r hr)
  have hR515 := fun r (hr : r ≤ 60) => (f2 (515 + r) (by omega)).trans (hR515 r hr)
  have hR576 := fun r (hr : r ≤ 60) => (f2 (576 + r) (by omega)).trans (hR576 r hr)
  have hR637 := fun r (hr : r ≤ 60) => (f2 (637 + r) (by omega)).trans (hR637 r hr)
  refine rc_aload_n E dX12_init_83 rfl 0 rfl ?_
  refine rc_iconst E dX12_init_84 ki_0 ?_
  refine rc_put (k := 0) E (C := RX12) (T := TX12) (N := 9) (j := 8) (fs := [.ref a1, .ref a3, .ref a25, .ref a515, .int (0 : Int32), .ref a576, .ref a637, .ref a698, .int 0]) (ci := 8) (by omega) hA0 hC0 rfl iT_12 tyX12 tyX12_ok nmX12 (by decide) fl_X12_51 rfl rfl (tyX12_ok 8 (by decide)) rfl rfl (Nat.le_of_ble_eq_true rfl) dX12_init_85 (fun ct22 f1 f2 => ?_)
  have hC0 : ct22 0 = .inr (8, [.ref a1, .ref a3, .ref a25, .ref a515, .int (0 : Int32), .ref a576, .ref a637, .ref a698, .int (0 : Int32)]) := f1
  have hC698 := (f2 _ (by omega)).trans hC698
  have hfr : ∀ i, i < 0 → ct22 i = ct0 i := fun i hi => (f2 i (by omega)).trans (hfr i hi)
  have hR1 := fun r (hr : r ≤ 1) => (f2 (1 + r) (by omega)).trans (hR1 r hr)
  have hR3 := fun r (hr : r ≤ 21) => (f2 (3 + r) (by omega)).trans (hR3 r hr)
  have hR25 := fun r (hr : r ≤ 489) => (f2 (25 + r) (by omega)).trans (hR25 r hr)
  have hR515 := fun r (hr : r ≤ 60) => (f2 (515 + r) (by omega)).trans (hR515 r hr)
  have hR576 := fun r (hr : r ≤ 60) => (f2 (576 + r) (by omega)).trans (hR576 r hr)
  have hR637 := fun r (hr : r ≤ 60) => (f2 (637 + r) (by omega)).trans (hR637 r hr)
  have hz0 : put ad20 1999 699 0 = ad0 0 := (put_n (by decide)).trans hA0
  have hu9 : ∀ i, i ≤ 0 ∨ 2000 ≤ i → put ad20 1999 699 i = ad0 i := fun i hi => (put_n (by omega)).trans (hku i (by omega))
  have hn9 : nW (put ad20 1999 699) = 699 := put_s _ _ _
  have hs9 : ∀ i, i < 711 ∨ 2000 ≤ i → put ad20 1999 699 i = ad20 i := fun i hi => put_n (by omega)
  refine rc_enter (n0 := 0) (n1 := 699) (M := mMain) E (by decide) (by decide) (by decide +kernel) hku ?_ (fun hA9 E => ?_)
  · intro k hk
    by_cases k1 : k = 0
    · subst k1
      refine Or.inl (hC0.trans ?_)
      rw [cel_0]
      show _ = (.inr (8, [.ref (put ad20 1999 699 1), .ref (put ad20 1999 699 3), .ref (put ad20 1999 699 25), .ref (put ad20 1999 699 515), .int (bz 0), .ref (put ad20 1999 699 (27 + 61 * (9 : Int32).toNatClampNeg)), .ref (put ad20 1999 699 (27 + 61 * (10 : Int32).toNatClampNeg)), .ref (put ad20 1999 699 698), .int 0]) : va_E)
      rw [bz_0, show put ad20 1999 699 1 = a1 from (hs9 1 (by decide)).trans hA1, show put ad20 1999 699 3 = a3 from (hs9 3 (by decide)).trans hA3, show put ad20 1999 699 25 = a25 from (hs9 25 (by decide)).trans hA25, show put ad20 1999 699 515 = a515 from (hs9 515 (by decide)).trans hA515, show put ad20 1999 699 (27 + 61 * (9 : Int32).toNatClampNeg) = a576 from (hs9 576 (by decide)).trans hA576, show put ad20 1999 699 (27 + 61 * (10 : Int32).toNatClampNeg) = a637 from (hs9 637 (by decide)).trans hA637, show put ad20 1999 699 698 = a698 from (hs9 698 (by decide)).trans hA698]
    by_cases k2 : k < 3
    · have q := hR1 (k - 1) (by omega)
      rw [show 1 + (k - 1) = k by omega] at q
      rw [q]
      rcases (show k = 1 ∨ k = 2 by omega) with rfl | rfl
      · refine Or.inl ?_
        rw [cel_1]
        show (.inr (7, [.ref (ad20 (1 + 1)), .int 0, .int 0, .int 0, .int 0, .int 0, .int 0, .int (-1)]) : va_E) = .inr (7, [.ref (put ad20 1999 699 2), .int 0, .int 0, .int 0, .int 0, .int 0, .int 0, .int (-1)])
        rw [show put ad20 1999 699 2 = ad20 2 from hs9 2 (by decide)]
      · exact Or.inl rfl
    by_cases k3 : k < 25
    · have q := hR3 (k - 3) (by omega)
      rw [show 3 + (k - 3) = k by omega] at q
      rw [q]
      by_cases k4 : k = 3
      · subst k4
        refine Or.inl ?_
        show (.inr (5, [.ref (ad20 (3 + 1)), .int 0, .int 0]) : va_E) = .inr (5, [.ref (put ad20 1999 699 4), .int 0, .int 0])
        rw [show put ad20 1999 699 4 = ad20 4 from hs9 4 (by decide)]
      by_cases k5 : k = 4
      · subst k5
        refine Or.inr ⟨tc 7, 20, tr 20 (fun j => ad20 (3 + 2 + j)), fun j => some (put ad20 1999 699 (5 + j)), rfl, rfl, fun j hj => ?_⟩
        rw [show tr 20 (fun j => ad20 (3 + 2 + j)) j = some (ad20 (3 + 2 + j)) from if_pos hj]
        show some (ad20 (3 + 2 + j)) = some (put ad20 1999 699 (5 + j))
        rw [hs9 (5 + j) (by omega), show 3 + 2 + j = 5 + j by omega]
      rw [cel_cmd tc _ ⟨by omega, k3⟩, show mMain k = rCm by unfold mMain; rw [if_neg k1, if_neg (by omega), if_neg (by omega), if_pos k3]]
      refine Or.inl ?_
      unfold FX8
      rw [if_neg (by omega), if_neg (by omega)]
      unfold eCommand
      rw [hs9 (2100 + _) (Or.inr (by omega))]
    have hm : ∀ b c, b = 27 + 61 * c → c < 11 → b ≤ k → k ≤ b + 60 → mMain k = mC (k - b) := fun b c hb hc h1 h2 => by
      unfold mMain
      rw [if_neg k1, if_neg (by omega), if_neg (by omega), if_neg k3, if_neg (by omega), if_pos (by omega), show (k - 27) % 61 = k - b by omega]
    have hblk : ∀ b c, b = 27 + 61 * c → c < 11 → b ≤ k → k ≤ b + 60 → ct22 k = FX2 tc ad20 b (k - b) → Eqv (ct22 k) (cel tc (put ad20 1999 699) k (mMain k)) := fun b c hb hc h1 h2 q => by
      rw [q]
      have w := eqv_FX2 (tc := tc) (ad := ad20) (ad' := put ad20 1999 699) hb hc (show k - b ≤ 60 by omega) hs9 (hm b c hb hc h1 h2)
      rw [show b + (k - b) = k by omega] at w
      exact w
    by_cases k4 : k < 515
    · have q := hR25 (k - 25) (by omega)
      rw [show 25 + (k - 25) = k by omega] at q
      by_cases k5 : k = 25
      · subst k5
        rw [q]
        refine Or.inl ?_
        show (.inr (3, [.ref (ad20 (25 + 1)), .int 0, .int 0]) : va_E) = .inr (3, [.ref (put ad20 1999 699 26), .int 0, .int 0])
        rw [show put ad20 1999 699 26 = ad20 26 from hs9 26 (by decide)]
      by_cases k6 : k = 26
      · subst k6
        rw [q]
        refine Or.inr ⟨tc 6, 8, tr 8 (fun j => ad20 (25 + 2 + 61 * j)), fun j => some (put ad20 1999 699 (27 + 61 * j)), rfl, rfl, fun j hj => ?_⟩
        rw [show tr 8 (fun j => ad20 (25 + 2 + 61 * j)) j = some (ad20 (25 + 2 + 61 * j)) from if_pos hj]
        show some (ad20 (25 + 2 + 61 * j)) = some (put ad20 1999 699 (27 + 61 * j))
        rw [hs9 (27 + 61 * j) (by omega), show 25 + 2 + 61 * j = 27 + 61 * j by omega]
      refine hblk (27 + 61 * ((k - 27) / 61)) ((k - 27) / 61) rfl (by omega) (by omega) (by omega) (q.trans ?_)
      unfold FX5
      rw [if_neg (by omega), if_neg (by omega), show k - 25 - 2 = k - 27 by omega, show k - (27 + 61 * ((k - 27) / 61)) = (k - 27) % 61 by omega]
    by_cases k5 : k < 576
    · have q := hR515 (k - 515) (by omega)
      rw [show 515 + (k - 515) = k by omega] at q
      exact hblk 515 8 rfl (by decide) (by omega) (by omega) q
    by_cases k6 : k < 637
    · have q := hR576 (k - 576) (by omega)
      rw [show 576 + (k - 576) = k by omega] at q
      exact hblk 576 9 rfl (by decide) (by omega) (by omega) q
    by_cases k7 : k < 698
    · have q := hR637 (k - 637) (by omega)
      rw [show 637 + (k - 637) = k by omega] at q
      exact hblk 637 10 rfl (by decide) (by omega) (by omega) q
    have hk9 : k = 698 := by omega
    subst hk9
    exact Or.inl hC698
  · clear hs9
    generalize put ad20 1999 699 = ad at hz0 hu9 hn9 hA9 E ⊢
    have hL : ([(0, Value.ref (ad0 0))] : List (Nat × Value)) = [(0, .ref (ad 0))] := by rw [hz0]
    rw [hL]
    unfold f_X12_tail at h
    refine ra_aload_n E dX12_init_88 rfl 0 rfl ?_
    refine gf_X12_0 E fl_X12_10 dX12_init_89 ?_
    refine ra_ldcS E sr_X12_55 dX12_init_92 ?_
    refine ra_callVV (rest := []) E (c_X10_appendSigns _ (Nat.le_of_ble_eq_true rfl) _ _ h) (lq_X10 _) cv_X10_appendSigns ml_X12_57 (by decide) (lm (by decide)) (fun R => ⟨_, cel_1 tc ad R⟩) rfl rfl rfl (Nat.le_of_ble_eq_true rfl) ⟨Nat.le_of_ble_eq_true rfl, Nat.le_of_ble_eq_true rfl⟩ ⟨Nat.le_of_ble_eq_true rfl, Nat.le_of_ble_eq_true rfl⟩ dX12_init_94 (fun M1 h => ?_)
    refine ra_aload_n E dX12_init_97 rfl 0 rfl ?_
    refine gf_X12_0 E fl_X12_10 dX12_init_98 ?_
    refine ra_ldcS E sr_X12_55 dX12_init_101 ?_
    refine ra_callIR (rest := [_]) E (c_J0_length_8abf5 _ (Nat.le_of_ble_eq_true rfl) _ _ h) (lq_J0 _) cv_J0_length_8abf5 ml_X12_61 (by decide) (rv_str E (Nat.le_of_ble_eq_true rfl)) rfl rfl (Nat.le_of_ble_eq_true rfl) ⟨Nat.le_of_ble_eq_true rfl, Nat.le_of_ble_eq_true rfl⟩ ⟨Nat.le_of_ble_eq_true rfl, Nat.le_of_ble_eq_true rfl⟩ dX12_init_103 (fun r3 M2 h => ?_)
    refine ra_callVV (rest := []) E (c_X10_begin _ _ _ h) (lq_X10 _) cv_X10_begin ml_X12_67 (by decide) (lm (by decide)) (fun R => ⟨_, cel_1 tc ad R⟩) rfl rfl rfl (Nat.le_of_ble_eq_true rfl) ⟨Nat.le_of_ble_eq_true rfl, Nat.le_of_ble_eq_true rfl⟩ ⟨Nat.le_of_ble_eq_true rfl, Nat.le_of_ble_eq_true rfl⟩ dX12_init_106 (fun M4 h => ?_)
    refine ra_aload_n E dX12_init_109 rfl 0 rfl ?_
    refine gf_X12_0 E fl_X12_10 dX12_init_110 ?_
    refine ra_aload_n E dX12_init_113 rfl 0 rfl ?_
    obtain ⟨g5, h⟩ := h
    refine gf_X12_5 E fl_X12_41 dX12_init_114 ?_
    refine ra_callVS (rest := []) E (c_X3_parse _ (isCanal_of g5) _ _ h) (lq_X3 _) ct_X3_parse ml_X12_71 (by decide) rfl rfl (Nat.le_of_ble_eq_true rfl) ⟨Nat.le_of_ble_eq_true rfl, Nat.le_of_ble_eq_true rfl⟩ ⟨Nat.le_of_ble_eq_true rfl, Nat.le_of_ble_eq_true rfl⟩ dX12_init_117 (fun M6 h => ?_)
    refine ra_aload_n E dX12_init_120 rfl 0 rfl ?_
    refine gf_X12_0 E fl_X12_10 dX12_init_121 ?_
    refine ra_callVV (rest := []) E (c_X10_empty _ _ h) (lq_X10 _) cv_X10_empty ml_X12_77 (by decide) (lm (by decide)) (fun R => ⟨_, cel_1 tc ad R⟩) rfl rfl rfl (Nat.le_of_ble_eq_true rfl) ⟨Nat.le_of_ble_eq_true rfl, Nat.le_of_ble_eq_true rfl⟩ ⟨Nat.le_of_ble_eq_true rfl, Nat.le_of_ble_eq_true rfl⟩ dX12_init_124 (fun M7 h => ?_)
    exact rn_vret E hr hu9 hn9 hA9 ⟨Nat.le_of_ble_eq_true rfl, Nat.le_of_ble_eq_true rfl⟩ dX12_init_127 h
