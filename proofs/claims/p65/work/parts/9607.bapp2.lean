/-! p65: the JDK's builder: append -/
theorem sup_B : Cond.superclass RJ4 RJ5 ∈ TS := TS_of (tin_6 _ (List.mem_of_getElem? (i := 33) (by decide +kernel))) (by decide +kernel)
section BAPP2
variable {tB : ClassId} {ad : Nat → Nat} {t1 t2 : Nat} {ws : va_W} {b : Nat} {T : List Nat}
theorem bw_app {d q : Nat} {f : Nat → Int32} {U : List Nat} (hq : T.length + U.length ≤ q) (hq2 : q ≤ 2500) (hf : FB f) (h1 : ∀ j, j < T.length → f j = nI (T.getD j 0)) (h2 : ∀ j, j < U.length → f (T.length + j) = nI (U.getD j 0)) : BW tB b (T ++ U) (wB tB b d q f (T.length + U.length)) := by
  refine ⟨d, q, f, by rw [List.length_append], by rw [List.length_append]; exact hq, hq2, hf, fun j hj => ?_⟩
  rw [List.length_append] at hj
  by_cases h : j < T.length
  · rw [gd_l h, h1 j h]
  · rw [gd_r (by omega), ← h2 (j - T.length) (by omega)]
    congr 1
    omega
theorem b_appS {i : Nat} (hi : i < nS) (hw : BW tB b T ws) (hl : T.length + lenS.getD i 0 ≤ 1200) : BR yJ5_append_cf1ce cJ5_append_cf1ce 3 (some (.object RJ5)) 4 1 2500 tB ad t1 t2 [.ref b, .ref (ad (2200 + i))] ws (fun a w => a = b ∧ BW tB b (T ++ byN i) w) := fun l D A => by
  obtain ⟨d, q, f, rfl, hq, hq2, hf, hb⟩ := hw
  refine Eb_of RJ5 rfl (by decide +kernel) (Nat.le_of_ble_eq_true rfl) (fun p e s m below meth c E hr => ?_)
  refine rb_aload_n E dJ5_append_cf1ce_0 rfl 1 rfl ?_
  refine rb_ifnonnull (tgt := 9) E dJ5_append_cf1ce_1 rfl ?_
  refine rb_aload_n E dJ5_append_cf1ce_9 rfl 1 rfl ?_
  refine rk_i (rn_V E (rest := []) hi (b_length hi l D A) cv_J0_length_8abf5 ml_J5_32 (by decide) rfl rfl (Nat.le_of_ble_eq_true rfl) ⟨Nat.le_of_ble_eq_true rfl, Nat.le_of_ble_eq_true rfl⟩ ⟨Nat.le_of_ble_eq_true rfl, Nat.le_of_ble_eq_true rfl⟩ dJ5_append_cf1ce_10) (fun r w h => ?_)
  obtain ⟨rfl, rfl⟩ := h
  refine rb_istore_n (L' := [(2, _), (0, _), (1, _)]) E dJ5_append_cf1ce_13 rfl (by decide) rfl ?_
  refine rb_aload_n E dJ5_append_cf1ce_14 rfl 1 rfl ?_
  refine rb_aload_n E dJ5_append_cf1ce_15 rfl 1 rfl ?_
  refine rb_getf E 0 rfl (C := RJ4) (T := TJ4) (N := 4) (j := 3) rfl iT_J4 (by decide) fl_J5_79 rfl rfl dJ5_append_cf1ce_16 ?_
  refine rb_iload_n E dJ5_append_cf1ce_19 rfl 0 rfl ?_
  refine rb_iadd E dJ5_append_cf1ce_20 ?_
  rw [nI_add]
  refine rk_v (rn_U E (rest := []) (As := [.int (nI (T.length + lenS.getD i 0))]) rfl (b_ensure hf hq2 hl l D A) cu_ensure ml_J5_100 (by decide) rfl rfl (Nat.le_of_ble_eq_true rfl) ⟨Nat.le_of_ble_eq_true rfl, Nat.le_of_ble_eq_true rfl⟩ ⟨Nat.le_of_ble_eq_true rfl, Nat.le_of_ble_eq_true rfl⟩ dJ5_append_cf1ce_21) (fun w h => ?_)
  obtain ⟨d', q', f', rfl, k1, k2, k3, k4⟩ := h
  refine rb_aload_n E dJ5_append_cf1ce_24 rfl 1 rfl ?_
  refine rb_aload_n E dJ5_append_cf1ce_25 rfl 1 rfl ?_
  refine rb_getf E 0 rfl (C := RJ4) (T := TJ4) (N := 4) (j := 3) rfl iT_J4 (by decide) fl_J5_79 rfl rfl dJ5_append_cf1ce_26 ?_
  refine rb_aload_n E dJ5_append_cf1ce_29 rfl 2 rfl ?_
  refine rk_v (rn_U E (rest := []) (As := [.int (nI T.length), .ref (ad (2200 + i))]) rfl (b_putStr hi k1 (by omega) l D A) cu_putStr ml_J5_208 (by decide) rfl rfl (Nat.le_of_ble_eq_true rfl) ⟨Nat.le_of_ble_eq_true rfl, Nat.le_of_ble_eq_true rfl⟩ ⟨Nat.le_of_ble_eq_true rfl, Nat.le_of_ble_eq_true rfl⟩ dJ5_append_cf1ce_30) (fun w h => ?_)
  subst h
  refine rb_aload_n E dJ5_append_cf1ce_33 rfl 1 rfl ?_
  refine rb_dup E dJ5_append_cf1ce_34 rfl ?_
  refine rb_getf E 0 rfl (C := RJ4) (T := TJ4) (N := 4) (j := 3) rfl iT_J4 (by decide) fl_J5_79 rfl rfl dJ5_append_cf1ce_35 ?_
  refine rb_iload_n E dJ5_append_cf1ce_38 rfl 0 rfl ?_
  refine rb_iadd E dJ5_append_cf1ce_39 ?_
  rw [nI_add]
  have el : (byN i).length = lenS.getD i 0 := byN_len ⟨i, hi⟩
  refine rb_putf (ws' := wB tB b d' q' (va_cpy (fun j => (bytS.getD i []).getD j 0) f' 0 T.length (lenS.getD i 0)) (T.length + lenS.getD i 0)) E 0 rfl (C := RJ4) (T := TJ4) (N := 4) (j := 3) rfl iT_J4 tyJ4 tyJ4_ok nmJ4 (by decide) fl_J5_79 rfl rfl rfl rfl rfl (Nat.le_of_ble_eq_true rfl) rfl dJ5_append_cf1ce_40 ?_
  refine rb_aload_n E dJ5_append_cf1ce_43 rfl 1 rfl ?_
  refine rb_aret E hr (Or.inl ⟨_, rfl⟩) (Nat.le_refl _) (Nat.le_refl _) dJ5_append_cf1ce_44 ⟨rfl, ?_⟩
  rw [← el]
  refine bw_app (by rw [el]; exact k1) k2 ((bytS_fit i).cpy k3 _ _ _) (fun j hj => ?_) (fun j hj => ?_)
  · unfold va_cpy
    rw [if_neg (by omega), k4 j (by omega), hb j hj]
  · unfold va_cpy
    rw [if_pos (by omega), ← byN_at]
    congr 1
    omega
theorem b_appC {k : Nat} (hk : k < 128) (hw : BW tB b T ws) (hl : T.length + 1 ≤ 1200) : BR yJ5_append_3fe6f cJ5_append_3fe6f 2 (some (.object RJ5)) 4 1 2500 tB ad t1 t2 [.ref b, .int (nI k)] ws (fun a w => a = b ∧ BW tB b (T ++ [k]) w) := fun l D A => by
  obtain ⟨d, q, f, rfl, hq, hq2, hf, hb⟩ := hw
  refine Eb_of RJ5 rfl (by decide +kernel) (Nat.le_of_ble_eq_true rfl) (fun p e s m below meth c E hr => ?_)
  refine rb_aload_n E dJ5_append_3fe6f_0 rfl 0 rfl ?_
  refine rb_aload_n E dJ5_append_3fe6f_1 rfl 0 rfl ?_
  refine rb_getf E 0 rfl (C := RJ4) (T := TJ4) (N := 4) (j := 3) rfl iT_J4 (by decide) fl_J5_79 rfl rfl dJ5_append_3fe6f_2 ?_
  refine rb_iconst E dJ5_append_3fe6f_5 ki_1 ?_
  refine rb_iadd E dJ5_append_3fe6f_6 ?_
  rw [nI_1]
  refine rk_v (rn_U E (rest := []) (As := [.int (nI (T.length + 1))]) rfl (b_ensure hf hq2 hl l D A) cu_ensure ml_J5_100 (by decide) rfl rfl (Nat.le_of_ble_eq_true rfl) ⟨Nat.le_of_ble_eq_true rfl, Nat.le_of_ble_eq_true rfl⟩ ⟨Nat.le_of_ble_eq_true rfl, Nat.le_of_ble_eq_true rfl⟩ dJ5_append_3fe6f_7) (fun w h => ?_)
  obtain ⟨d', q', f', rfl, k1, k2, k3, k4⟩ := h
  refine rb_aload_n E dJ5_append_3fe6f_10 rfl 0 rfl ?_
  refine rk_i (rn_U E (rest := []) (As := []) rfl (b_isLatin1 rfl l D A) cu_isLatin1 ml_J5_83 (by decide) rfl rfl (Nat.le_of_ble_eq_true rfl) ⟨Nat.le_of_ble_eq_true rfl, Nat.le_of_ble_eq_true rfl⟩ ⟨Nat.le_of_ble_eq_true rfl, Nat.le_of_ble_eq_true rfl⟩ dJ5_append_3fe6f_11) (fun r w h => ?_)
  obtain ⟨rfl, rfl⟩ := h
  refine rb_if_eq (tgt := 45) E dJ5_append_3fe6f_14 rfl (fun q => absurd q (by decide +kernel)) (fun _ => ?_)
  refine rb_iload_n E dJ5_append_3fe6f_17 rfl 1 rfl ?_
  refine rk_i (rn_S E (rest := []) (As := [.int (nI k)]) (b_canEncode hk l D A) ct_J1_canEncode_fc78d ml_J5_191 (by decide) rfl rfl (Nat.le_of_ble_eq_true rfl) ⟨Nat.le_of_ble_eq_true rfl, Nat.le_of_ble_eq_true rfl⟩ ⟨Nat.le_of_ble_eq_true rfl, Nat.le_of_ble_eq_true rfl⟩ dJ5_append_3fe6f_18) (fun r w h => ?_)
  obtain ⟨rfl, rfl⟩ := h
  refine rb_if_eq (tgt := 45) E dJ5_append_3fe6f_21 rfl (fun q => absurd q (by decide +kernel)) (fun _ => ?_)
  refine rb_aload_n E dJ5_append_3fe6f_24 rfl 0 rfl ?_
  refine rb_getf E 0 rfl (C := RJ4) (T := TJ4) (N := 4) (j := 0) rfl iT_J4 (by decide) fl_J5_15 rfl rfl dJ5_append_3fe6f_25 ?_
  refine rb_aload_n E dJ5_append_3fe6f_28 rfl 0 rfl ?_
  refine rb_dup E dJ5_append_3fe6f_29 rfl ?_
  refine rb_getf E 0 rfl (C := RJ4) (T := TJ4) (N := 4) (j := 3) rfl iT_J4 (by decide) fl_J5_79 rfl rfl dJ5_append_3fe6f_30 ?_
  refine rb_dup_x1 E dJ5_append_3fe6f_33 rfl rfl ?_
  refine rb_iconst E dJ5_append_3fe6f_34 ki_1 ?_
  refine rb_iadd E dJ5_append_3fe6f_35 ?_
  rw [nI_1]
  refine rb_putf (ws' := wB tB b d' q' f' (T.length + 1)) E 0 rfl (C := RJ4) (T := TJ4) (N := 4) (j := 3) rfl iT_J4 tyJ4 tyJ4_ok nmJ4 (by decide) fl_J5_79 rfl rfl rfl rfl rfl (Nat.le_of_ble_eq_true rfl) rfl dJ5_append_3fe6f_36 ?_
  refine rb_iload_n E dJ5_append_3fe6f_39 rfl 1 rfl ?_
  refine rb_i2b E dJ5_append_3fe6f_40 rfl ?_
  have c1 : (nI T.length).toNatClampNeg = T.length := nI_clamp (by omega)
  refine rb_bast (ws' := wB tB b d' q' (upd f' T.length (nI k)) (T.length + 1)) E 1 rfl (vp_in_nI (by omega) (by omega)) (by rw [c1, asc ⟨k, hk⟩]; rfl) dJ5_append_3fe6f_41 ?_
  refine rb_goto (tgt := 75) E dJ5_append_3fe6f_42 rfl ?_
  refine rb_aload_n E dJ5_append_3fe6f_75 rfl 0 rfl ?_
  refine rb_aret E hr (Or.inl ⟨_, rfl⟩) (Nat.le_refl _) (Nat.le_refl _) dJ5_append_3fe6f_76 ⟨rfl, ?_⟩
  refine bw_app (U := [k]) k1 k2 (fb_upd k3 hk) (fun j hj => ?_) (fun j hj => ?_)
  · have hne : j ≠ T.length := by omega
    simp only [upd, if_neg hne]
    rw [k4 j (by omega), hb j hj]
  · have ej : j = 0 := by have : j < 1 := hj; omega
    subst ej
    simp only [upd, Nat.add_zero, if_true]
    rfl
theorem b_appI {v : Nat} (hv : v < 100) (hw : BW tB b T ws) (hl : T.length + 2 ≤ 1200) : BR yJ5_append_c97b9 cJ5_append_c97b9 4 (some (.object RJ5)) 4 1 2500 tB ad t1 t2 [.ref b, .int (nI v)] ws (fun a w => a = b ∧ BW tB b (T ++ dg v) w) := fun l D A => by
  obtain ⟨d, q, f, rfl, hq, hq2, hf, hb⟩ := hw
  have hd := dg_l v
  refine Eb_of RJ5 rfl (by decide +kernel) (Nat.le_of_ble_eq_true rfl) (fun p e s m below meth c E hr => ?_)
  refine rb_aload_n E dJ5_append_c97b9_0 rfl 0 rfl ?_
  refine rb_getf E 0 rfl (C := RJ4) (T := TJ4) (N := 4) (j := 3) rfl iT_J4 (by decide) fl_J5_79 rfl rfl dJ5_append_c97b9_1 ?_
  refine rb_istore_n (L' := [(2, _), (0, _), (1, _)]) E dJ5_append_c97b9_4 rfl (by decide) rfl ?_
  refine rb_iload_n E dJ5_append_c97b9_5 rfl 0 rfl ?_
  refine rb_iload_n E dJ5_append_c97b9_6 rfl 2 rfl ?_
  refine rk_i (rn_S E (rest := [.int (nI T.length)]) (As := [.int (nI v)]) (b_strSize hv l D A) ct_J6_stringSize_0f7a4 ml_J5_245 (by decide) rfl rfl (Nat.le_of_ble_eq_true rfl) ⟨Nat.le_of_ble_eq_true rfl, Nat.le_of_ble_eq_true rfl⟩ ⟨Nat.le_of_ble_eq_true rfl, Nat.le_of_ble_eq_true rfl⟩ dJ5_append_c97b9_7) (fun r w h => ?_)
  obtain ⟨rfl, rfl⟩ := h
  refine rb_iadd E dJ5_append_c97b9_10 ?_
  rw [nI_add]
  refine rb_istore_n (L' := [(3, _), (2, _), (0, _), (1, _)]) E dJ5_append_c97b9_11 rfl (by decide) rfl ?_
  refine rb_aload_n E dJ5_append_c97b9_12 rfl 2 rfl ?_
  refine rb_iload_n E dJ5_append_c97b9_13 rfl 0 rfl ?_
  refine rk_v (rn_U E (rest := []) (As := [.int (nI (T.length + (dg v).length))]) rfl (b_ensure hf hq2 (by omega) l D A) cu_ensure ml_J5_100 (by decide) rfl rfl (Nat.le_of_ble_eq_true rfl) ⟨Nat.le_of_ble_eq_true rfl, Nat.le_of_ble_eq_true rfl⟩ ⟨Nat.le_of_ble_eq_true rfl, Nat.le_of_ble_eq_true rfl⟩ dJ5_append_c97b9_14) (fun w h => ?_)
  obtain ⟨d', q', f', rfl, k1, k2, k3, k4⟩ := h
  refine rb_aload_n E dJ5_append_c97b9_17 rfl 2 rfl ?_
  refine rk_i (rn_U E (rest := []) (As := []) rfl (b_isLatin1 rfl l D A) cu_isLatin1 ml_J5_83 (by decide) rfl rfl (Nat.le_of_ble_eq_true rfl) ⟨Nat.le_of_ble_eq_true rfl, Nat.le_of_ble_eq_true rfl⟩ ⟨Nat.le_of_ble_eq_true rfl, Nat.le_of_ble_eq_true rfl⟩ dJ5_append_c97b9_18) (fun r w h => ?_)
  obtain ⟨rfl, rfl⟩ := h
  refine rb_if_eq (tgt := 37) E dJ5_append_c97b9_21 rfl (fun q => absurd q (by decide +kernel)) (fun _ => ?_)
  refine rb_iload_n E dJ5_append_c97b9_24 rfl 3 rfl ?_
  refine rb_iload_n E dJ5_append_c97b9_25 rfl 0 rfl ?_
  refine rb_aload_n E dJ5_append_c97b9_26 rfl 2 rfl ?_
  refine rb_getf E 0 rfl (C := RJ4) (T := TJ4) (N := 4) (j := 0) rfl iT_J4 (by decide) fl_J5_15 rfl rfl dJ5_append_c97b9_27 ?_
  refine rk_i (rn_S E (rest := []) (As := [.int (nI v), .int (nI (T.length + (dg v).length)), .ref d']) (b_getChars hv k3 k1 k2 l D A) ct_J6_getChars_ba4f3 ml_J5_248 (by decide) rfl rfl (Nat.le_of_ble_eq_true rfl) ⟨Nat.le_of_ble_eq_true rfl, Nat.le_of_ble_eq_true rfl⟩ ⟨Nat.le_of_ble_eq_true rfl, Nat.le_of_ble_eq_true rfl⟩ dJ5_append_c97b9_30) (fun r w h => ?_)
  obtain ⟨f2, rfl, g1, g2, g3⟩ := h
  refine rb_pop E dJ5_append_c97b9_33 rfl ?_
  refine rb_goto (tgt := 48) E dJ5_append_c97b9_34 rfl ?_
  refine rb_aload_n E dJ5_append_c97b9_48 rfl 2 rfl ?_
  refine rb_iload_n E dJ5_append_c97b9_49 rfl 0 rfl ?_
  refine rb_putf (ws' := wB tB b d' q' f2 (T.length + (dg v).length)) E 0 rfl (C := RJ4) (T := TJ4) (N := 4) (j := 3) rfl iT_J4 tyJ4 tyJ4_ok nmJ4 (by decide) fl_J5_79 rfl rfl rfl rfl rfl (Nat.le_of_ble_eq_true rfl) rfl dJ5_append_c97b9_50 ?_
  refine rb_aload_n E dJ5_append_c97b9_53 rfl 2 rfl ?_
  refine rb_aret E hr (Or.inl ⟨_, rfl⟩) (Nat.le_refl _) (Nat.le_refl _) dJ5_append_c97b9_54 ⟨rfl, ?_⟩
  exact bw_app k1 k2 g1 (fun j hj => by rw [g3 j hj, k4 j (by omega), hb j hj]) g2
end BAPP2
