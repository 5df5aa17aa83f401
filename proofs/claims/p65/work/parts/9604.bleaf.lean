/-! p65: the JDK's builder: its small methods -/
theorem sh_r0 (x : Int32) : x >>> ((0 : Int32) &&& 31) = x := by
  have e : (0 : Int32) &&& 31 = 0 := by decide +kernel
  rw [e]
  simp
theorem sh_l0 (x : Int32) : x <<< ((0 : Int32) &&& 31) = x := by
  have e : (0 : Int32) &&& 31 = 0 := by decide +kernel
  rw [e]
  simp
theorem nr_b0 : narrow .byte (.int 0) = .int 0 := by decide +kernel
theorem nr_z1 : narrow .boolean (.int 1) = .int 1 := by decide +kernel
section BLEAF
variable {tB : ClassId} {ad : Nat → Nat} {t1 t2 : Nat} {ws : va_W}
abbrev hcs0 {R : Room} {cells slots : Nat} (h : cells ≤ R.cells ∧ slots ≤ R.slots) : cells + 0 ≤ R.cells ∧ slots + 0 ≤ R.slots := h
theorem b_coder {i : Nat} (hi : i < nS) : BI yJ0_coder_7d493 cJ0_coder_7d493 1 (some .byte) 0 0 0 tB ad t1 t2 [.ref (ad (2200 + i))] ws (fun r w => r = 0 ∧ w = ws) := fun l D A => by
  refine Eb_of RJ0 rfl (by decide +kernel) (Nat.le_of_ble_eq_true rfl) (fun p e s m below meth c E hr => ?_)
  refine gb_comp E fl_J0_38 dJ0_coder_7d493_0 ?_
  refine rb_if_eq (tgt := 13) E dJ0_coder_7d493_3 rfl (fun q => absurd q (by decide +kernel)) (fun _ => ?_)
  refine rb_aload_n E dJ0_coder_7d493_6 rfl 0 rfl ?_
  refine gb_scod E hi fl_J0_15 dJ0_coder_7d493_7 ?_
  refine rb_goto (tgt := 14) E dJ0_coder_7d493_10 rfl ?_
  exact rb_iret E hr nr_b0 (Nat.le_refl _) (Nat.le_refl _) dJ0_coder_7d493_14 ⟨rfl, rfl⟩
theorem b_length {i : Nat} (hi : i < nS) : BI yJ0_length_8abf5 cJ0_length_8abf5 1 (some .int) 1 0 0 tB ad t1 t2 [.ref (ad (2200 + i))] ws (fun r w => r = nI (lenS.getD i 0) ∧ w = ws) := fun l D A => by
  refine Eb_of RJ0 rfl (by decide +kernel) (Nat.le_of_ble_eq_true rfl) (fun p e s m below meth c E hr => ?_)
  refine rb_aload_n E dJ0_length_8abf5_0 rfl 0 rfl ?_
  refine gb_sval E hi fl_J0_9 dJ0_length_8abf5_1 ?_
  refine lb_sval E hi dJ0_length_8abf5_4 ?_
  refine rb_aload_n E dJ0_length_8abf5_5 rfl 0 rfl ?_
  refine rk_i (rn_V E (rest := [.int (nI (lenS.getD i 0))]) hi (b_coder hi l D A) cv_J0_coder_7d493 ml_J0_335 (by decide) rfl rfl (Nat.le_of_ble_eq_true rfl) ⟨Nat.le_of_ble_eq_true rfl, Nat.le_of_ble_eq_true rfl⟩ ⟨Nat.le_of_ble_eq_true rfl, Nat.le_of_ble_eq_true rfl⟩ dJ0_length_8abf5_6) (fun r w h => ?_)
  obtain ⟨rfl, rfl⟩ := h
  refine rb_ishr E dJ0_length_8abf5_9 ?_
  rw [sh_r0]
  exact rb_iret E hr rfl (Nat.le_refl _) (Nat.le_refl _) dJ0_length_8abf5_10 ⟨rfl, rfl⟩
theorem b_isLatin1 {b : Nat} {v x y : Value} (he : ws[0]? = some (b, .inr (0, [v, .int 0, x, y]))) : BI yJ5_isLatin1_aae02 cJ5_isLatin1_aae02 1 (some .boolean) 0 0 0 tB ad t1 t2 [.ref b] ws (fun r w => r = 1 ∧ w = ws) := fun l D A => by
  refine Eb_of RJ5 rfl (by decide +kernel) (Nat.le_of_ble_eq_true rfl) (fun p e s m below meth c E hr => ?_)
  refine gb_comp E fl_J5_18 dJ5_isLatin1_aae02_0 ?_
  refine rb_if_eq (tgt := 17) E dJ5_isLatin1_aae02_3 rfl (fun q => absurd q (by decide +kernel)) (fun _ => ?_)
  refine rb_aload_n E dJ5_isLatin1_aae02_6 rfl 0 rfl ?_
  refine rb_getf E 0 he (C := RJ4) (T := TJ4) (N := 4) (j := 1) rfl iT_J4 (by decide) fl_J5_22 rfl rfl dJ5_isLatin1_aae02_7 ?_
  refine rb_if_ne (tgt := 17) E dJ5_isLatin1_aae02_10 rfl (fun q => absurd rfl q) (fun _ => ?_)
  refine rb_iconst E dJ5_isLatin1_aae02_13 ki_1 ?_
  refine rb_goto (tgt := 18) E dJ5_isLatin1_aae02_14 rfl ?_
  exact rb_iret E hr nr_z1 (Nat.le_refl _) (Nat.le_refl _) dJ5_isLatin1_aae02_18 ⟨rfl, rfl⟩
theorem b_canEncode {k : Nat} (hk : k < 128) : BI yJ1_canEncode_fc78d cJ1_canEncode_fc78d 1 (some .boolean) 0 0 0 tB ad t1 t2 [.int (nI k)] ws (fun r w => r = 1 ∧ w = ws) := fun l D A => by
  refine Eb_of RJ1 rfl (by decide +kernel) (Nat.le_of_ble_eq_true rfl) (fun p e s m below meth c E hr => ?_)
  refine rb_iload_n E dJ1_canEncode_fc78d_0 rfl 0 rfl ?_
  refine rb_sipush E dJ1_canEncode_fc78d_1 ks_255 ?_
  refine rb_icmp_gt (tgt := 11) E dJ1_canEncode_fc78d_4 rfl (fun q => absurd q (by have := nI_nlt (a := 255) (b := k) (by omega) (by omega); exact this)) (fun _ => ?_)
  refine rb_iconst E dJ1_canEncode_fc78d_7 ki_1 ?_
  refine rb_goto (tgt := 12) E dJ1_canEncode_fc78d_8 rfl ?_
  exact rb_iret E hr nr_z1 (Nat.le_refl _) (Nat.le_refl _) dJ1_canEncode_fc78d_12 ⟨rfl, rfl⟩
theorem b_inflate {b i : Nat} {v x y : Value} (hi : i < nS) (he : ws[0]? = some (b, .inr (0, [v, .int 0, x, y]))) : BV yJ5_inflateIfNeededFor_a7421 cJ5_inflateIfNeededFor_a7421 2 1 0 0 tB ad t1 t2 [.ref b, .ref (ad (2200 + i))] ws (fun w => w = ws) := fun l D A => by
  refine Eb_of RJ5 rfl (by decide +kernel) (Nat.le_of_ble_eq_true rfl) (fun p e s m below meth c E hr => ?_)
  refine gb_comp E fl_J5_18 dJ5_inflateIfNeededFor_a7421_0 ?_
  refine rb_if_eq (tgt := 21) E dJ5_inflateIfNeededFor_a7421_3 rfl (fun q => absurd q (by decide +kernel)) (fun _ => ?_)
  refine rb_aload_n E dJ5_inflateIfNeededFor_a7421_6 rfl 0 rfl ?_
  refine rb_getf E 0 he (C := RJ4) (T := TJ4) (N := 4) (j := 1) rfl iT_J4 (by decide) fl_J5_22 rfl rfl dJ5_inflateIfNeededFor_a7421_7 ?_
  refine rb_aload_n E dJ5_inflateIfNeededFor_a7421_10 rfl 1 rfl ?_
  refine rk_i (rn_V E (rest := [.int 0]) hi (b_coder hi l D A) cv_J0_coder_7d493 ml_J5_40 (by decide) rfl rfl (Nat.le_of_ble_eq_true rfl) ⟨Nat.le_of_ble_eq_true rfl, Nat.le_of_ble_eq_true rfl⟩ ⟨Nat.le_of_ble_eq_true rfl, Nat.le_of_ble_eq_true rfl⟩ dJ5_inflateIfNeededFor_a7421_11) (fun r w h => ?_)
  obtain ⟨rfl, rfl⟩ := h
  refine rb_icmp_eq (tgt := 21) E dJ5_inflateIfNeededFor_a7421_14 rfl (fun _ => ?_) (fun q => absurd rfl q)
  exact rb_vret E hr (Nat.le_refl _) (Nat.le_refl _) dJ5_inflateIfNeededFor_a7421_21 rfl
theorem b_newLength {a n g : Nat} (h : a + n + g < 100000) (h0 : 0 < a + n) : BI yJ8_newLength_cabcc cJ8_newLength_cabcc 4 (some .int) 1 0 0 tB ad t1 t2 [.int (nI a), .int (nI n), .int (nI g)] ws (fun r w => r = nI (a + if n < g then g else n) ∧ w = ws) := fun l D A => by
  refine Eb_of RJ8 rfl (by decide +kernel) (Nat.le_of_ble_eq_true rfl) (fun p e s m below meth c E hr => ?_)
  refine rb_iload_n E dJ8_newLength_cabcc_0 rfl 0 rfl ?_
  refine rb_iload_n E dJ8_newLength_cabcc_1 rfl 1 rfl ?_
  refine rb_iload_n E dJ8_newLength_cabcc_2 rfl 2 rfl ?_
  refine rb_mmax E ml_J8_194 ⟨Nat.le_of_ble_eq_true rfl, Nat.le_of_ble_eq_true rfl⟩ ⟨Nat.le_of_ble_eq_true rfl, Nat.le_of_ble_eq_true rfl⟩ dJ8_newLength_cabcc_3 ?_
  refine rb_iadd E dJ8_newLength_cabcc_6 ?_
  have e1 : nI a + (if nI n < nI g then nI g else nI n) = nI (a + if n < g then g else n) := by
    by_cases q : n < g
    · rw [if_pos (nI_lt q (by omega)), if_pos q, nI_add]
    · rw [if_neg (nI_nlt (by omega) (by omega)), if_neg q, nI_add]
  rw [e1]
  have hb : (a + if n < g then g else n) < 100000 ∧ 0 < (a + if n < g then g else n) := by
    by_cases q : n < g
    · rw [if_pos q]; omega
    · rw [if_neg q]; omega
  generalize (a + if n < g then g else n) = z at hb ⊢
  refine rb_istore_n (L' := [(3, _), (0, _), (1, _), (2, _)]) E dJ8_newLength_cabcc_7 rfl (by decide) rfl ?_
  refine rb_iconst E dJ8_newLength_cabcc_8 ki_0 ?_
  refine rb_iload_n E dJ8_newLength_cabcc_9 rfl 0 rfl ?_
  refine rb_icmp_ge (tgt := 21) E dJ8_newLength_cabcc_10 rfl (fun q => absurd q (nI_nle hb.2 (by omega))) (fun _ => ?_)
  refine rb_iload_n E dJ8_newLength_cabcc_13 rfl 0 rfl ?_
  refine rb_ldci E kc_J8_200 dJ8_newLength_cabcc_14 ?_
  refine rb_icmp_gt (tgt := 21) E dJ8_newLength_cabcc_16 rfl (fun q => absurd q (by have := nI_nlt (a := 2147483639) (b := z) (by omega) (by omega); exact this)) (fun _ => ?_)
  refine rb_iload_n E dJ8_newLength_cabcc_19 rfl 0 rfl ?_
  exact rb_iret E hr rfl (Nat.le_refl _) (Nat.le_refl _) dJ8_newLength_cabcc_20 ⟨rfl, rfl⟩
end BLEAF
