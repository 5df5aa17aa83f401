/-! p65: the JDK's builder: its bytes grow, a text's bytes come in -/
def FB (f : Nat → Int32) : Prop := ∀ j, fits .byte (.int (f j)) = true
theorem fb_0 : FB (fun _ => 0) := fun _ => (by decide +kernel : fits .byte (.int 0) = true)
theorem bytS_fit (i : Nat) : FB (fun j => (bytS.getD i []).getD j 0) := fun j => by
  have h : ∀ r ∈ bytS, ∀ x ∈ r, fits .byte (.int x) = true := by decide +kernel
  show fits .byte (.int ((bytS.getD i []).getD j 0)) = true
  by_cases hi : i < bytS.length
  · rw [show bytS.getD i [] = bytS[i] from by simp [List.getD, hi]]
    by_cases hj : j < bytS[i].length
    · rw [show bytS[i].getD j 0 = bytS[i][j] from by simp [List.getD, hj]]
      exact h _ (List.getElem_mem hi) _ (List.getElem_mem hj)
    · rw [show bytS[i].getD j 0 = 0 from by simp [List.getD, List.getElem?_eq_none_iff.mpr (Nat.le_of_not_lt hj)]]
      decide +kernel
  · rw [show bytS.getD i [] = [] from by simp [List.getD, List.getElem?_eq_none_iff.mpr (Nat.le_of_not_lt hi)]]
    exact (by decide +kernel : fits .byte (.int 0) = true)
theorem FB.cpy {f g : Nat → Int32} (hf : FB f) (hg : FB g) (a b n : Nat) : FB (va_cpy f g a b n) := fun j => by
  unfold va_cpy
  by_cases h : b ≤ j ∧ j < b + n
  · rw [if_pos h]; exact hf _
  · rw [if_neg h]; exact hg _
abbrev eB (tB : ClassId) (d q : Nat) (f : Nat → Int32) : Nat × va_E := (d, .inl (tB, q, .inl f))
abbrev oB (b d n : Nat) : Nat × va_E := (b, .inr (0, [.ref d, .int 0, .int 0, .int (nI n)]))
abbrev wB (tB : ClassId) (b d q : Nat) (f : Nat → Int32) (n : Nat) : va_W := [oB b d n, eB tB d q f]
theorem app_set {α : Type} (ws : List α) (x y : α) : (ws ++ [x]).set ws.length y = ws ++ [y] := by
  rw [List.set_append_right _ _ (Nat.le_refl _), Nat.sub_self]
  rfl
theorem app_at {α : Type} (ws : List α) (x : α) : (ws ++ [x])[ws.length]? = some x := by
  rw [List.getElem?_append_right (Nat.le_refl _), Nat.sub_self]
  rfl
theorem app_lt {α : Type} {ws : List α} {x y : α} {q : Nat} (h : ws[q]? = some y) : (ws ++ [x])[q]? = some y := by
  rw [List.getElem?_append_left (List.getElem?_eq_some_iff.mp h).1]
  exact h
section BGROW
variable {p : Program} {l : Launch} {e : Env} {R : Room} {s : State} {m : MethodId} {args : Array Value} {below : List Frame} {meth : Method} {c : Code} {cells slots : Nat} {Q : State → Prop} {D : va_G} {A : Nat → Prop} {nL pc : Nat} {L : List (Nat × Value)} {st : List Value}
variable {tB : ClassId} {ad : Nat → Nat} {t1 t2 : Nat} {ws : va_W}
theorem rb_drop {x y z : Nat × va_E} {ys : va_W} (kk : Wb p l e R s m args below meth c cells slots Q D A nL ([x, z] ++ ys) pc L st) : Wb p l e R s m args below meth c cells slots Q D A nL ([x, y, z] ++ ys) pc L st := fun H locs ls hP hD hS h => by
  have key : ∀ (k : Nat) (w : Nat × va_E), ([x, z] ++ ys)[k]? = some w → ([x, y, z] ++ ys)[if k = 0 then 0 else k + 1]? = some w := fun k w hk => by
    match k with
    | 0 => exact hk
    | k + 1 => exact hk
  refine kk H locs ls (fun k w hk => hP _ w (key k w hk)) ⟨fun i j a b hi hj e => ?_, fun k w hk => hD.2 _ w (key k w hk)⟩ hS h
  have h9 := hD.1 _ _ a b (key i a hi) (key j b hj) e
  by_cases hi0 : i = 0
  · by_cases hj0 : j = 0
    · omega
    · rw [if_pos hi0, if_neg hj0] at h9; omega
  · by_cases hj0 : j = 0
    · rw [if_neg hi0, if_pos hj0] at h9; omega
    · rw [if_neg hi0, if_neg hj0] at h9; omega
theorem b_getBytes {i q1 a1 n1 k : Nat} {g : Nat → Int32} (hi : i < nS) (h1 : ws[q1]? = some (a1, .inl (tB, n1, .inl g))) (hk : k + lenS.getD i 0 ≤ n1) (hn : n1 < 100000) : BV yJ0_getBytes_840e7 cJ0_getBytes_840e7 4 1 0 0 tB ad t1 t2 [.ref (ad (2200 + i)), .ref a1, .int (nI k), .int 0] ws (fun w => w = ws.set q1 (a1, .inl (tB, n1, .inl (va_cpy (fun j => (bytS.getD i []).getD j 0) g 0 k (lenS.getD i 0))))) := fun l D A => by
  refine Eb_of RJ0 rfl (by decide +kernel) (Nat.le_of_ble_eq_true rfl) (fun p e s m below meth c E hr => ?_)
  refine rb_aload_n E dJ0_getBytes_840e7_0 rfl 0 rfl ?_
  refine rk_i (rn_V E (rest := []) hi (b_coder hi l D A) cv_J0_coder_7d493 ml_J0_335 (by decide) rfl rfl (Nat.le_of_ble_eq_true rfl) ⟨Nat.le_of_ble_eq_true rfl, Nat.le_of_ble_eq_true rfl⟩ ⟨Nat.le_of_ble_eq_true rfl, Nat.le_of_ble_eq_true rfl⟩ dJ0_getBytes_840e7_1) (fun r w h => ?_)
  obtain ⟨rfl, rfl⟩ := h
  refine rb_iload_n E dJ0_getBytes_840e7_4 rfl 3 rfl ?_
  refine rb_icmp_ne (tgt := 28) E dJ0_getBytes_840e7_5 rfl (fun q => absurd rfl q) (fun _ => ?_)
  refine rb_aload_n E dJ0_getBytes_840e7_8 rfl 0 rfl ?_
  refine gb_sval E hi fl_J0_9 dJ0_getBytes_840e7_9 ?_
  refine rb_iconst E dJ0_getBytes_840e7_12 ki_0 ?_
  refine rb_aload_n E dJ0_getBytes_840e7_13 rfl 1 rfl ?_
  refine rb_iload_n E dJ0_getBytes_840e7_14 rfl 2 rfl ?_
  refine rb_iload_n E dJ0_getBytes_840e7_15 rfl 3 rfl ?_
  refine rb_ishl E dJ0_getBytes_840e7_16 ?_
  rw [sh_l0]
  refine rb_aload_n E dJ0_getBytes_840e7_17 rfl 0 rfl ?_
  refine gb_sval E hi fl_J0_9 dJ0_getBytes_840e7_18 ?_
  refine lb_sval E hi dJ0_getBytes_840e7_21 ?_
  have c0 : (0 : Int32).toNatClampNeg = 0 := by decide +kernel
  have c1 : (nI k).toNatClampNeg = k := nI_clamp (by omega)
  have c2 : (nI (lenS.getD i 0)).toNatClampNeg = lenS.getD i 0 := nI_clamp (by omega)
  refine rb_copyt E hi q1 h1 ⟨by decide +kernel, nI_pos (by omega), nI_pos (by omega), by rw [c0, c2]; omega, by rw [c1, c2]; exact hk⟩ (fun j _ => bytS_fit i _) ml_J0_212 (by rw [c0, c1, c2]) ⟨Nat.le_of_ble_eq_true rfl, Nat.le_of_ble_eq_true rfl⟩ dJ0_getBytes_840e7_22 ?_
  refine rb_goto (tgt := 43) E dJ0_getBytes_840e7_25 rfl ?_
  exact rb_vret E hr (Nat.le_refl _) (Nat.le_refl _) dJ0_getBytes_840e7_43 rfl
theorem cu_isLatin1 : CU yJ5_isLatin1_aae02 cJ5_isLatin1_aae02 1 (some .boolean) 0 := ⟨TS_of (tin_6 _ (List.mem_of_getElem? (i := 69) (by decide +kernel))) (by decide +kernel), TSp_r (TS_of (tin_6 _ (List.mem_of_getElem? (i := 70) (by decide +kernel))) (by decide +kernel)), TS_of (tin_6 _ (List.mem_of_getElem? (i := 68) (by decide +kernel))) (by decide +kernel), ini_J5, TS_of (tin_6 _ (List.mem_of_getElem? (i := 71) rfl)) (by decide +kernel), by decide +kernel, by decide +kernel, by decide +kernel⟩
theorem cu_ensure : CU yJ5_ensureCapacityInternal_d00df cJ5_ensureCapacityInternal_d00df 3 none 1 := ⟨TS_of (tin_6 _ (List.mem_of_getElem? (i := 236) (by decide +kernel))) (by decide +kernel), by decide +kernel, TS_of (tin_6 _ (List.mem_of_getElem? (i := 41) (by decide +kernel))) (by decide +kernel), ini_J5, TS_of (tin_6 _ (List.mem_of_getElem? (i := 42) rfl)) (by decide +kernel), by decide +kernel, by decide +kernel, by decide +kernel⟩
theorem cu_newCap : CU yJ5_newCapacity_0f7a4 cJ5_newCapacity_0f7a4 6 (some .int) 1 := ⟨TS_of (tin_6 _ (List.mem_of_getElem? (i := 237) (by decide +kernel))) (by decide +kernel), by decide +kernel, TS_of (tin_6 _ (List.mem_of_getElem? (i := 45) (by decide +kernel))) (by decide +kernel), ini_J5, TS_of (tin_6 _ (List.mem_of_getElem? (i := 46) rfl)) (by decide +kernel), by decide +kernel, by decide +kernel, by decide +kernel⟩
theorem cu_putStr : CU yJ5_putStringAt_47b60 cJ5_putStringAt_47b60 3 none 2 := ⟨TS_of (tin_6 _ (List.mem_of_getElem? (i := 238) (by decide +kernel))) (by decide +kernel), by decide +kernel, TS_of (tin_6 _ (List.mem_of_getElem? (i := 90) (by decide +kernel))) (by decide +kernel), ini_J5, TS_of (tin_6 _ (List.mem_of_getElem? (i := 91) rfl)) (by decide +kernel), by decide +kernel, by decide +kernel, by decide +kernel⟩
theorem cu_inflate : CU yJ5_inflateIfNeededFor_a7421 cJ5_inflateIfNeededFor_a7421 2 none 1 := ⟨TS_of (tin_6 _ (List.mem_of_getElem? (i := 239) (by decide +kernel))) (by decide +kernel), by decide +kernel, TS_of (tin_6 _ (List.mem_of_getElem? (i := 94) (by decide +kernel))) (by decide +kernel), ini_J5, TS_of (tin_6 _ (List.mem_of_getElem? (i := 95) rfl)) (by decide +kernel), by decide +kernel, by decide +kernel, by decide +kernel⟩
theorem b_putStr {b d q n i k : Nat} {f : Nat → Int32} (hi : i < nS) (hk : k + lenS.getD i 0 ≤ q) (hq : q < 100000) : BV yJ5_putStringAt_47b60 cJ5_putStringAt_47b60 3 2 0 0 tB ad t1 t2 [.ref b, .int (nI k), .ref (ad (2200 + i))] (wB tB b d q f n) (fun w => w = wB tB b d q (va_cpy (fun j => (bytS.getD i []).getD j 0) f 0 k (lenS.getD i 0)) n) := fun l D A => by
  refine Eb_of RJ5 rfl (by decide +kernel) (Nat.le_of_ble_eq_true rfl) (fun p e s m below meth c E hr => ?_)
  refine rb_aload_n E dJ5_putStringAt_47b60_0 rfl 0 rfl ?_
  refine rb_aload_n E dJ5_putStringAt_47b60_1 rfl 2 rfl ?_
  refine rk_v (rn_U E (rest := []) (As := [.ref (ad (2200 + i))]) rfl (b_inflate hi rfl l D A) cu_inflate ml_J5_397 (by decide) rfl rfl (Nat.le_of_ble_eq_true rfl) ⟨Nat.le_of_ble_eq_true rfl, Nat.le_of_ble_eq_true rfl⟩ ⟨Nat.le_of_ble_eq_true rfl, Nat.le_of_ble_eq_true rfl⟩ dJ5_putStringAt_47b60_2) (fun w h => ?_)
  subst h
  refine rb_aload_n E dJ5_putStringAt_47b60_5 rfl 2 rfl ?_
  refine rb_aload_n E dJ5_putStringAt_47b60_6 rfl 0 rfl ?_
  refine rb_getf E 0 rfl (C := RJ4) (T := TJ4) (N := 4) (j := 0) rfl iT_J4 (by decide) fl_J5_15 rfl rfl dJ5_putStringAt_47b60_7 ?_
  refine rb_iload_n E dJ5_putStringAt_47b60_10 rfl 1 rfl ?_
  refine rb_aload_n E dJ5_putStringAt_47b60_11 rfl 0 rfl ?_
  refine rb_getf E 0 rfl (C := RJ4) (T := TJ4) (N := 4) (j := 1) rfl iT_J4 (by decide) fl_J5_22 rfl rfl dJ5_putStringAt_47b60_12 ?_
  refine rk_v (rn_V E (rest := []) (As := [.ref d, .int (nI k), .int 0]) hi (b_getBytes (q1 := 1) hi rfl hk hq l D A) cv_J0_getBytes_840e7 ml_J5_399 (by decide) rfl rfl (Nat.le_of_ble_eq_true rfl) ⟨Nat.le_of_ble_eq_true rfl, Nat.le_of_ble_eq_true rfl⟩ ⟨Nat.le_of_ble_eq_true rfl, Nat.le_of_ble_eq_true rfl⟩ dJ5_putStringAt_47b60_15) (fun w h => ?_)
  subst h
  exact rb_vret E hr (Nat.le_refl _) (Nat.le_refl _) dJ5_putStringAt_47b60_18 rfl
theorem b_newCap {b d q n mn : Nat} {f : Nat → Int32} (hm : q < mn) (hb : mn < 20000) : BI yJ5_newCapacity_0f7a4 cJ5_newCapacity_0f7a4 6 (some .int) 2 0 0 tB ad t1 t2 [.ref b, .int (nI mn)] (wB tB b d q f n) (fun r w => r = nI (q + if mn - q < q + 2 then q + 2 else mn - q) ∧ w = wB tB b d q f n) := fun l D A => by
  refine Eb_of RJ5 rfl (by decide +kernel) (Nat.le_of_ble_eq_true rfl) (fun p e s m below meth c E hr => ?_)
  refine rb_aload_n E dJ5_newCapacity_0f7a4_0 rfl 0 rfl ?_
  refine rb_getf E 0 rfl (C := RJ4) (T := TJ4) (N := 4) (j := 0) rfl iT_J4 (by decide) fl_J5_15 rfl rfl dJ5_newCapacity_0f7a4_1 ?_
  refine rb_alen E 1 rfl dJ5_newCapacity_0f7a4_4 ?_
  refine rb_istore_n (L' := [(2, _), (0, _), (1, _)]) E dJ5_newCapacity_0f7a4_5 rfl (by decide) rfl ?_
  refine rb_iload_n E dJ5_newCapacity_0f7a4_6 rfl 2 rfl ?_
  refine rb_aload_n E dJ5_newCapacity_0f7a4_7 rfl 1 rfl ?_
  refine rb_getf E 0 rfl (C := RJ4) (T := TJ4) (N := 4) (j := 1) rfl iT_J4 (by decide) fl_J5_22 rfl rfl dJ5_newCapacity_0f7a4_8 ?_
  refine rb_ishl E dJ5_newCapacity_0f7a4_11 ?_
  rw [sh_l0]
  refine rb_istore_n (L' := [(3, _), (2, _), (0, _), (1, _)]) E dJ5_newCapacity_0f7a4_12 rfl (by decide) rfl ?_
  refine rb_iload_n E dJ5_newCapacity_0f7a4_13 rfl 0 rfl ?_
  refine rb_iload_n E dJ5_newCapacity_0f7a4_14 rfl 1 rfl ?_
  refine rb_isub E dJ5_newCapacity_0f7a4_15 ?_
  rw [nI_sub (Nat.le_of_lt hm)]
  refine rb_istore (L' := [(4, _), (3, _), (2, _), (0, _), (1, _)]) E dJ5_newCapacity_0f7a4_16 (by decide) rfl ?_
  refine rb_iload_n E dJ5_newCapacity_0f7a4_18 rfl 2 rfl ?_
  refine rb_iload E dJ5_newCapacity_0f7a4_19 0 rfl ?_
  refine rb_iload_n E dJ5_newCapacity_0f7a4_21 rfl 2 rfl ?_
  refine rb_iconst E dJ5_newCapacity_0f7a4_22 ki_2 ?_
  refine rb_aload_n E dJ5_newCapacity_0f7a4_23 rfl 3 rfl ?_
  refine rb_getf E 0 rfl (C := RJ4) (T := TJ4) (N := 4) (j := 1) rfl iT_J4 (by decide) fl_J5_22 rfl rfl dJ5_newCapacity_0f7a4_24 ?_
  refine rb_ishl E dJ5_newCapacity_0f7a4_27 ?_
  rw [sh_l0]
  refine rb_iadd E dJ5_newCapacity_0f7a4_28 ?_
  have e2 : nI q + 2 = nI (q + 2) := nI_add q 2
  rw [e2]
  refine rk_i (rn_S E (rest := []) (As := [.int (nI q), .int (nI (mn - q)), .int (nI (q + 2))]) (b_newLength (by omega) (by omega) l D A) ct_J8_newLength_cabcc ml_J5_114 (by decide) rfl rfl (Nat.le_of_ble_eq_true rfl) ⟨Nat.le_of_ble_eq_true rfl, Nat.le_of_ble_eq_true rfl⟩ ⟨Nat.le_of_ble_eq_true rfl, Nat.le_of_ble_eq_true rfl⟩ dJ5_newCapacity_0f7a4_29) (fun r w h => ?_)
  obtain ⟨rfl, rfl⟩ := h
  have hz : (q + if mn - q < q + 2 then q + 2 else mn - q) < 100000 := by
    by_cases q9 : mn - q < q + 2
    · rw [if_pos q9]; omega
    · rw [if_neg q9]; omega
  generalize (q + if mn - q < q + 2 then q + 2 else mn - q) = z at hz ⊢
  refine rb_istore (L' := [(5, _), (4, _), (3, _), (2, _), (0, _), (1, _)]) E dJ5_newCapacity_0f7a4_32 (by decide) rfl ?_
  refine rb_iload E dJ5_newCapacity_0f7a4_34 0 rfl ?_
  refine rb_ldci E kc_J5_39 dJ5_newCapacity_0f7a4_36 ?_
  refine rb_icmp_ne (tgt := 51) E dJ5_newCapacity_0f7a4_38 rfl (fun _ => ?_) (fun q9 => ?_)
  · refine rb_iload E dJ5_newCapacity_0f7a4_51 0 rfl ?_
    refine rb_aload_n E dJ5_newCapacity_0f7a4_53 rfl 4 rfl ?_
    refine rb_getf E 0 rfl (C := RJ4) (T := TJ4) (N := 4) (j := 1) rfl iT_J4 (by decide) fl_J5_22 rfl rfl dJ5_newCapacity_0f7a4_54 ?_
    refine rb_ishr E dJ5_newCapacity_0f7a4_57 ?_
    rw [sh_r0]
    exact rb_iret E hr rfl (Nat.le_refl _) (Nat.le_refl _) dJ5_newCapacity_0f7a4_58 ⟨rfl, rfl⟩
  · exact absurd q9 (by have := nI_lt (a := z) (b := 2147483647) (by omega) (by omega); intro e9; rw [e9] at this; exact Int32.lt_irrefl this)
theorem b_copyOf {q0 d q n2 : Nat} {f : Nat → Int32} (he : ws[q0]? = some (d, .inl (tB, q, .inl f))) (hf : FB f) (hn : q < n2) (hb : n2 ≤ 2500) : BR yJ7_copyOf_9075b cJ7_copyOf_9075b 3 (some (.array .byte)) 1 1 2500 tB ad t1 t2 [.ref d, .int (nI n2)] ws (fun a w => w = ws ++ [eB tB a n2 (va_cpy f (fun _ => 0) 0 0 q)]) := fun l D A => by
  refine Eb_of RJ7 rfl (by decide +kernel) (Nat.le_of_ble_eq_true rfl) (fun p e s m below meth c E hr => ?_)
  refine rb_iload_n E dJ7_copyOf_9075b_0 rfl 1 rfl ?_
  refine rb_aload_n E dJ7_copyOf_9075b_1 rfl 0 rfl ?_
  refine rb_alen E q0 he dJ7_copyOf_9075b_2 ?_
  refine rb_icmp_ne (tgt := 14) E dJ7_copyOf_9075b_3 rfl (fun _ => ?_) (fun q9 => absurd (nI_inj (by omega) (by omega) q9) (by omega))
  refine rb_iload_n E dJ7_copyOf_9075b_14 rfl 1 rfl ?_
  refine rb_newb (N := n2) E rfl (by omega) ⟨Nat.le_of_ble_eq_true rfl, by show 0 + n2 ≤ 2500; omega⟩ dJ7_copyOf_9075b_15 (fun a => ?_)
  refine rb_astore_n (L' := [(2, _), (0, _), (1, _)]) E dJ7_copyOf_9075b_17 rfl (by decide) rfl ?_
  refine rb_aload_n E dJ7_copyOf_9075b_18 rfl 1 rfl ?_
  refine rb_iconst E dJ7_copyOf_9075b_19 ki_0 ?_
  refine rb_aload_n E dJ7_copyOf_9075b_20 rfl 0 rfl ?_
  refine rb_iconst E dJ7_copyOf_9075b_21 ki_0 ?_
  refine rb_aload_n E dJ7_copyOf_9075b_22 rfl 1 rfl ?_
  refine rb_alen E q0 (app_lt he) dJ7_copyOf_9075b_23 ?_
  refine rb_iload_n E dJ7_copyOf_9075b_24 rfl 2 rfl ?_
  refine rb_mmin E ml_J7_304 ⟨Nat.le_of_ble_eq_true rfl, Nat.le_of_ble_eq_true rfl⟩ ⟨Nat.le_of_ble_eq_true rfl, by show 0 + n2 ≤ 2500; omega⟩ dJ7_copyOf_9075b_25 ?_
  rw [if_neg (nI_nlt (by omega) (by omega))]
  have c0 : (0 : Int32).toNatClampNeg = 0 := by decide +kernel
  have c2 : (nI q).toNatClampNeg = q := nI_clamp (by omega)
  refine rb_copyb (ws' := ws ++ [eB tB a n2 (va_cpy f (fun _ => 0) 0 0 q)]) E q0 ws.length (app_lt he) (app_at _ _) ⟨by decide +kernel, by decide +kernel, nI_pos (by omega), by rw [c0, c2]; omega, by rw [c0, c2]; omega⟩ (fun j _ => hf _) ml_J7_150 (by rw [c0, c2, app_set]) ⟨Nat.le_of_ble_eq_true rfl, Nat.le_of_ble_eq_true rfl⟩ dJ7_copyOf_9075b_28 ?_
  refine rb_aload_n E dJ7_copyOf_9075b_31 rfl 0 rfl ?_
  exact rb_aret E hr (Or.inr ⟨_, rfl⟩) (Nat.le_of_ble_eq_true rfl) (by show 0 + n2 ≤ 2500; omega) dJ7_copyOf_9075b_32 rfl
/-- the builder has room for mn bytes -/
theorem b_ensure {b d q n mn : Nat} {f : Nat → Int32} (hf : FB f) (hq : q ≤ 2500) (hm : mn ≤ 1200) : BV yJ5_ensureCapacityInternal_d00df cJ5_ensureCapacityInternal_d00df 3 3 1 2500 tB ad t1 t2 [.ref b, .int (nI mn)] (wB tB b d q f n) (fun w => ∃ d' q' f', w = wB tB b d' q' f' n ∧ mn ≤ q' ∧ q' ≤ 2500 ∧ FB f' ∧ ∀ j, j < q → f' j = f j) := fun l D A => by
  refine Eb_of RJ5 rfl (by decide +kernel) (Nat.le_of_ble_eq_true rfl) (fun p e s m below meth c E hr => ?_)
  refine rb_aload_n E dJ5_ensureCapacityInternal_d00df_0 rfl 0 rfl ?_
  refine rb_getf E 0 rfl (C := RJ4) (T := TJ4) (N := 4) (j := 0) rfl iT_J4 (by decide) fl_J5_15 rfl rfl dJ5_ensureCapacityInternal_d00df_1 ?_
  refine rb_alen E 1 rfl dJ5_ensureCapacityInternal_d00df_4 ?_
  refine rb_aload_n E dJ5_ensureCapacityInternal_d00df_5 rfl 0 rfl ?_
  refine rb_getf E 0 rfl (C := RJ4) (T := TJ4) (N := 4) (j := 1) rfl iT_J4 (by decide) fl_J5_22 rfl rfl dJ5_ensureCapacityInternal_d00df_6 ?_
  refine rb_ishr E dJ5_ensureCapacityInternal_d00df_9 ?_
  rw [sh_r0]
  refine rb_istore_n (L' := [(2, _), (0, _), (1, _)]) E dJ5_ensureCapacityInternal_d00df_10 rfl (by decide) rfl ?_
  refine rb_iload_n E dJ5_ensureCapacityInternal_d00df_11 rfl 2 rfl ?_
  refine rb_iload_n E dJ5_ensureCapacityInternal_d00df_12 rfl 0 rfl ?_
  refine rb_isub E dJ5_ensureCapacityInternal_d00df_13 ?_
  by_cases hg : q < mn
  · rw [nI_sub (Nat.le_of_lt hg)]
    refine rb_if_le (tgt := 38) E dJ5_ensureCapacityInternal_d00df_14 rfl (fun q9 => absurd q9 (nI_nle (by omega) (by omega))) (fun _ => ?_)
    refine rb_aload_n E dJ5_ensureCapacityInternal_d00df_17 rfl 1 rfl ?_
    refine rb_aload_n E dJ5_ensureCapacityInternal_d00df_18 rfl 1 rfl ?_
    refine rb_getf E 0 rfl (C := RJ4) (T := TJ4) (N := 4) (j := 0) rfl iT_J4 (by decide) fl_J5_15 rfl rfl dJ5_ensureCapacityInternal_d00df_19 ?_
    refine rb_aload_n E dJ5_ensureCapacityInternal_d00df_22 rfl 1 rfl ?_
    refine rb_iload_n E dJ5_ensureCapacityInternal_d00df_23 rfl 2 rfl ?_
    refine rk_i (rn_U E (rest := [.ref d, .ref b]) (As := [.int (nI mn)]) rfl (b_newCap hg (by omega) l D A) cu_newCap ml_J5_104 (by decide) rfl rfl (Nat.le_of_ble_eq_true rfl) ⟨Nat.le_of_ble_eq_true rfl, Nat.le_of_ble_eq_true rfl⟩ ⟨Nat.le_of_ble_eq_true rfl, Nat.le_of_ble_eq_true rfl⟩ dJ5_ensureCapacityInternal_d00df_24) (fun r w h => ?_)
    obtain ⟨rfl, rfl⟩ := h
    have hz : (q + if mn - q < q + 2 then q + 2 else mn - q) ≤ 2500 ∧ mn ≤ (q + if mn - q < q + 2 then q + 2 else mn - q) ∧ q < (q + if mn - q < q + 2 then q + 2 else mn - q) := by
      by_cases q9 : mn - q < q + 2
      · rw [if_pos q9]; omega
      · rw [if_neg q9]; omega
    generalize (q + if mn - q < q + 2 then q + 2 else mn - q) = z at hz ⊢
    refine rb_aload_n E dJ5_ensureCapacityInternal_d00df_27 rfl 1 rfl ?_
    refine rb_getf E 0 rfl (C := RJ4) (T := TJ4) (N := 4) (j := 1) rfl iT_J4 (by decide) fl_J5_22 rfl rfl dJ5_ensureCapacityInternal_d00df_28 ?_
    refine rb_ishl E dJ5_ensureCapacityInternal_d00df_31 ?_
    rw [sh_l0]
    refine rk_r (rn_S E (rest := [.ref b]) (As := [.ref d, .int (nI z)]) (b_copyOf (q0 := 1) rfl hf hz.2.2 hz.1 l D A) ct_J7_copyOf_9075b ml_J5_108 (by decide) rfl rfl (Nat.le_of_ble_eq_true rfl) ⟨Nat.le_of_ble_eq_true rfl, Nat.le_of_ble_eq_true rfl⟩ ⟨Nat.le_of_ble_eq_true rfl, Nat.le_of_ble_eq_true rfl⟩ dJ5_ensureCapacityInternal_d00df_32) (fun a w h => ?_)
    subst h
    refine rb_putf (ws' := [oB b a n, eB tB d q f, eB tB a z (va_cpy f (fun _ => 0) 0 0 q)]) E 0 rfl (C := RJ4) (T := TJ4) (N := 4) (j := 0) rfl iT_J4 tyJ4 tyJ4_ok nmJ4 (by decide) fl_J5_15 rfl rfl rfl rfl rfl (Nat.le_of_ble_eq_true rfl) rfl dJ5_ensureCapacityInternal_d00df_35 ?_
    refine rb_drop (ys := []) ?_
    refine rb_vret E hr (Nat.le_refl _) (Nat.le_refl _) dJ5_ensureCapacityInternal_d00df_38 ⟨a, z, _, rfl, hz.2.1, hz.1, hf.cpy fb_0 _ _ _, fun j hj => ?_⟩
    unfold va_cpy
    rw [if_pos ⟨Nat.zero_le _, by omega⟩]
    simp
  · have e0 : nI mn - nI q ≤ 0 := by
      rw [Int32.le_iff_toInt_le]
      have h1 := nI_toInt (n := mn) (by omega)
      have h2 := nI_toInt (n := q) (by omega)
      rw [Int32.toInt_sub, h1, h2]
      show Int.bmod _ _ ≤ 0
      rw [Int.bmod_eq_of_le (by omega) (by omega)]
      omega
    refine rb_if_le (tgt := 38) E dJ5_ensureCapacityInternal_d00df_14 rfl (fun _ => ?_) (fun q9 => absurd e0 q9)
    exact rb_vret E hr (Nat.zero_le _) (Nat.zero_le _) dJ5_ensureCapacityInternal_d00df_38 ⟨d, q, f, rfl, by omega, hq, hf, fun _ _ => rfl⟩
end BGROW
