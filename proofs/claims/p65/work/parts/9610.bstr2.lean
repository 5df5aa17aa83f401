/-! p65: the JDK's builder: its text as a new String -/
section BSTR2
variable {tB : ClassId} {ad : Nat → Nat} {t1 t2 : Nat} {ws : va_W} {b : Nat} {T : List Nat}
theorem b_len5 {n : Nat} {v x y : Value} (he : ws[0]? = some (b, .inr (0, [v, x, y, .int (nI n)]))) : BI yJ5_length_8abf5 cJ5_length_8abf5 1 (some .int) 0 0 0 tB ad t1 t2 [.ref b] ws (fun r w => r = nI n ∧ w = ws) := fun l D A => by
  refine Eb_of RJ5 rfl (by decide +kernel) (Nat.le_of_ble_eq_true rfl) (fun p e s m below meth c E hr => ?_)
  refine rb_aload_n E dJ5_length_8abf5_0 rfl 0 rfl ?_
  refine rb_getf E 0 he (C := RJ4) (T := TJ4) (N := 4) (j := 3) rfl iT_J4 (by decide) fl_J5_79 rfl rfl dJ5_length_8abf5_1 ?_
  exact rb_iret E hr rfl (Nat.le_refl _) (Nat.le_refl _) dJ5_length_8abf5_4 ⟨rfl, rfl⟩
theorem cd_len5 : Cond.code yJ5_length_8abf5 cJ5_length_8abf5 1 (some .int) ∈ TS := TS_of (tin_6 _ (List.mem_of_getElem? (i := 197) rfl)) (by decide +kernel)
theorem cd_len4 : Cond.code yJ4_length_8abf5 cJ4_length_8abf5 1 (some .int) ∈ TS := TS_of (tin_6 _ (List.mem_of_getElem? (i := 195) rfl)) (by decide +kernel)
theorem in_len5 : Cond.instanceMethod yJ5_length_8abf5 ∈ TS := TS_of (tin_6 _ (List.mem_of_getElem? (i := 191) (by decide +kernel))) (by decide +kernel)
theorem sm_len5 : Cond.sameMethod RJ5 RJ5 "length" "()I" ∈ TS := TS_of (tin_6 _ (List.mem_of_getElem? (i := 192) (by decide +kernel))) (by decide +kernel)
theorem b_len4 {n : Nat} {v x y : Value} (he : ws[0]? = some (b, .inr (0, [v, x, y, .int (nI n)]))) : BI yJ4_length_8abf5 cJ4_length_8abf5 1 (some .int) 1 0 0 tB ad t1 t2 [.ref b] ws (fun r w => r = nI n ∧ w = ws) := fun l D A => by
  refine Eb_of RJ4 rfl (by decide +kernel) (Nat.le_of_ble_eq_true rfl) (fun p e s m below meth c E hr => ?_)
  refine rb_aload_n E dJ4_length_8abf5_0 rfl 0 rfl ?_
  refine rk_i (rn_SU E (rest := []) (As := []) he (b_len5 he l D A) ml_J4_343 sm_len5 sup_B in_len5 ini_J5 cd_len5 (by decide +kernel) (n := 0) (by decide +kernel) (by decide) rfl rfl (Nat.le_of_ble_eq_true rfl) ⟨Nat.le_of_ble_eq_true rfl, Nat.le_of_ble_eq_true rfl⟩ ⟨Nat.le_of_ble_eq_true rfl, Nat.le_of_ble_eq_true rfl⟩ dJ4_length_8abf5_1) (fun r w h => ?_)
  obtain ⟨rfl, rfl⟩ := h
  exact rb_iret E hr rfl (Nat.le_refl _) (Nat.le_refl _) dJ4_length_8abf5_4 ⟨rfl, rfl⟩
theorem b_getV {d : Nat} {x y z : Value} (he : ws[0]? = some (b, .inr (0, [.ref d, x, y, z]))) : BR yJ5_getValue_6d5f1 cJ5_getValue_6d5f1 1 (some (.array .byte)) 0 0 0 tB ad t1 t2 [.ref b] ws (fun a w => a = d ∧ w = ws) := fun l D A => by
  refine Eb_of RJ5 rfl (by decide +kernel) (Nat.le_of_ble_eq_true rfl) (fun p e s m below meth c E hr => ?_)
  refine rb_aload_n E dJ5_getValue_6d5f1_0 rfl 0 rfl ?_
  refine rb_getf E 0 he (C := RJ4) (T := TJ4) (N := 4) (j := 0) rfl iT_J4 (by decide) fl_J5_15 rfl rfl dJ5_getValue_6d5f1_1 ?_
  exact rb_aret E hr (Or.inr ⟨_, rfl⟩) (Nat.le_refl _) (Nat.le_refl _) dJ5_getValue_6d5f1_4 ⟨rfl, rfl⟩
theorem cu_getV : CU yJ5_getValue_6d5f1 cJ5_getValue_6d5f1 1 (some (.array .byte)) 0 := ⟨TS_of (tin_6 _ (List.mem_of_getElem? (i := 187) (by decide +kernel))) (by decide +kernel), TSp_r (TS_of (tin_6 _ (List.mem_of_getElem? (i := 188) (by decide +kernel))) (by decide +kernel)), TS_of (tin_6 _ (List.mem_of_getElem? (i := 186) (by decide +kernel))) (by decide +kernel), ini_J5, TS_of (tin_6 _ (List.mem_of_getElem? (i := 189) rfl)) (by decide +kernel), by decide +kernel, by decide +kernel, by decide +kernel⟩
theorem wo_len : GoodIn TSp (va_wsO RJ0 549 RJ4 yJ5_length_8abf5.cls yJ5_length_8abf5 yJ4_length_8abf5 (Cond.code yJ4_length_8abf5 cJ4_length_8abf5 1 (some .int) :: TSp)) := bw_O ml_J0_549 sm_len5 in_len5 (TS_of (tin_6 _ (List.mem_of_getElem? (i := 193) (by decide +kernel))) (by decide +kernel)) (TS_of (tin_6 _ (List.mem_of_getElem? (i := 194) (by decide +kernel))) (by decide +kernel)) ini_J4 (fun w hw => (List.mem_cons.mp hw).elim (fun q => by rw [q]; exact TSp_r cd_len4) id)
abbrev stN (x : Nat) (v : Value) : Nat × va_E := (x, .inr (1, [v, .int 0, .int 0, .int 0]))
theorem b_sinit {d q n x : Nat} {f : Nat → Int32} (hn : n ≤ q) (hq : q ≤ 2500) (hf : FB f) : BV yJ0_init_db425 cJ0_init_db425 5 3 1 2500 tB ad t1 t2 [.ref x, .ref b, .null] [oB b d n, eB tB d q f, stN x .null] (fun w => ∃ a g, w = [oB b d n, eB tB d q f, stN x (.ref a), eB tB a n g] ∧ ∀ j, j < n → g j = f j) := fun l D A => by
  refine Eb_ofI RJ0 rfl (by decide +kernel) rfl (Nat.le_of_ble_eq_true rfl) (fun p e s m below meth c E hr hnm => ?_)
  refine rb_aload_n E dJ0_init_db425_0 rfl 0 rfl ?_
  refine rb_obj E ml_J0_1 ⟨Nat.le_of_ble_eq_true rfl, Nat.le_of_ble_eq_true rfl⟩ dJ0_init_db425_1 ?_
  refine rb_aload_n E dJ0_init_db425_4 rfl 1 rfl ?_
  refine rk_r (rn_U E (rest := []) (As := []) rfl (b_getV rfl l D A) cu_getV ml_J0_552 (by decide) rfl rfl (Nat.le_of_ble_eq_true rfl) ⟨Nat.le_of_ble_eq_true rfl, Nat.le_of_ble_eq_true rfl⟩ ⟨Nat.le_of_ble_eq_true rfl, Nat.le_of_ble_eq_true rfl⟩ dJ0_init_db425_5) (fun r w h => ?_)
  obtain ⟨rfl, rfl⟩ := h
  refine rb_astore_n (L' := [(3, _), (0, _), (1, _), (2, _)]) E dJ0_init_db425_8 rfl (by decide) rfl ?_
  refine rb_aload_n E dJ0_init_db425_9 rfl 2 rfl ?_
  refine rk_i (rn_O E (x := yJ5_length_8abf5) (rest := []) (As := []) rfl (b_len4 rfl l D A) wo_len (TSp_r cd_len5) (n := 0) ⟨by decide +kernel, by decide +kernel, by decide +kernel⟩ (by decide) rfl rfl (Nat.le_of_ble_eq_true rfl) ⟨Nat.le_of_ble_eq_true rfl, Nat.le_of_ble_eq_true rfl⟩ ⟨Nat.le_of_ble_eq_true rfl, Nat.le_of_ble_eq_true rfl⟩ dJ0_init_db425_10) (fun r w h => ?_)
  obtain ⟨rfl, rfl⟩ := h
  refine rb_istore (L' := [(4, _), (3, _), (0, _), (1, _), (2, _)]) E dJ0_init_db425_13 (by decide) rfl ?_
  refine rb_aload_n E dJ0_init_db425_15 rfl 3 rfl ?_
  refine rk_i (rn_U E (rest := []) (As := []) rfl (b_isLatin1 rfl l D A) cu_isLatin1 ml_J0_1047 (by decide) rfl rfl (Nat.le_of_ble_eq_true rfl) ⟨Nat.le_of_ble_eq_true rfl, Nat.le_of_ble_eq_true rfl⟩ ⟨Nat.le_of_ble_eq_true rfl, Nat.le_of_ble_eq_true rfl⟩ dJ0_init_db425_16) (fun r w h => ?_)
  obtain ⟨rfl, rfl⟩ := h
  refine rb_if_eq (tgt := 41) E dJ0_init_db425_19 rfl (fun q => absurd q (by decide +kernel)) (fun _ => ?_)
  refine rb_aload_n E dJ0_init_db425_22 rfl 2 rfl ?_
  refine rb_iconst E dJ0_init_db425_23 ki_0 ?_
  refine rb_putfF (ws' := [oB b r n, eB tB r q f, stN x .null]) E hnm 2 rfl (C := RJ0) (T := TJ0) (N := 4) (j := 1) rfl iT_J0 tyJ0 tyJ0_ok nmJ0 (by decide) fl_J0_15 rfl rfl rfl rfl (by decide +kernel) (by decide +kernel) (Nat.le_of_ble_eq_true rfl) rfl dJ0_init_db425_24 ?_
  refine rb_aload_n E dJ0_init_db425_27 rfl 2 rfl ?_
  refine rb_aload_n E dJ0_init_db425_28 rfl 1 rfl ?_
  refine rb_iconst E dJ0_init_db425_29 ki_0 ?_
  refine rb_iload E dJ0_init_db425_30 0 rfl ?_
  refine rk_r (rn_S E (rest := [.ref x]) (As := [.ref r, .int 0, .int (nI n)]) (b_copyR (q0 := 1) rfl hf hn hq l D A) ct_J7_copyOfRange_39247 ml_J0_54 (by decide) rfl rfl (Nat.le_of_ble_eq_true rfl) ⟨Nat.le_of_ble_eq_true rfl, Nat.le_of_ble_eq_true rfl⟩ ⟨Nat.le_of_ble_eq_true rfl, Nat.le_of_ble_eq_true rfl⟩ dJ0_init_db425_32) (fun a w h => ?_)
  obtain ⟨g, rfl, hg⟩ := h
  refine rb_putfF (ws' := [oB b r n, eB tB r q f, stN x (.ref a), eB tB a n g]) E hnm 2 rfl (C := RJ0) (T := TJ0) (N := 4) (j := 0) rfl iT_J0 tyJ0 tyJ0_ok nmJ0 (by decide) fl_J0_9 rfl rfl rfl rfl rfl rfl (Nat.le_of_ble_eq_true rfl) rfl dJ0_init_db425_35 ?_
  refine rb_goto (tgt := 97) E dJ0_init_db425_38 rfl ?_
  exact rb_vret E hr (Nat.le_refl _) (Nat.le_refl _) dJ0_init_db425_97 ⟨a, g, rfl, hg⟩
theorem b_sinit2 {d q n x : Nat} {f : Nat → Int32} (hn : n ≤ q) (hq : q ≤ 2500) (hf : FB f) : BV yJ0_init_81219 cJ0_init_81219 2 4 1 2500 tB ad t1 t2 [.ref x, .ref b] [oB b d n, eB tB d q f, stN x .null] (fun w => ∃ a g, w = [oB b d n, eB tB d q f, stN x (.ref a), eB tB a n g] ∧ ∀ j, j < n → g j = f j) := fun l D A => by
  refine Eb_of RJ0 rfl (by decide +kernel) (Nat.le_of_ble_eq_true rfl) (fun p e s m below meth c E hr => ?_)
  refine rb_aload_n E dJ0_init_81219_0 rfl 0 rfl ?_
  refine rb_aload_n E dJ0_init_81219_1 rfl 1 rfl ?_
  refine rb_null E dJ0_init_81219_2 ?_
  refine rk_v (rn_I E (rest := []) (As := [.ref b, .null]) (b_sinit hn hq hf l D A) ml_J0_489 (TS_of (tin_6 _ (List.mem_of_getElem? (i := 182) (by decide +kernel))) (by decide +kernel)) ini_J0 yc_J0_init_db425 rfl (n := 2) ⟨by decide +kernel, by decide +kernel, by decide +kernel⟩ (by decide) rfl rfl (Nat.le_of_ble_eq_true rfl) ⟨Nat.le_of_ble_eq_true rfl, Nat.le_of_ble_eq_true rfl⟩ ⟨Nat.le_of_ble_eq_true rfl, Nat.le_of_ble_eq_true rfl⟩ dJ0_init_81219_3) (fun w h => ?_)
  exact rb_vret E hr (Nat.le_refl _) (Nat.le_refl _) dJ0_init_81219_6 h
/-- the builder's text as a String -/
theorem B_toStr (hw : BW tB b T ws) : BR yJ4_toString_0e30d cJ4_toString_0e30d 1 (some (.object RJ0)) 5 2 2600 tB ad t1 t2 [.ref b] ws (fun x w => ∃ d q f a g, w = [oB b d T.length, eB tB d q f, stN x (.ref a), eB tB a T.length g] ∧ ∀ j, j < T.length → g j = nI (T.getD j 0)) := fun l D A => by
  obtain ⟨d, q, f, rfl, hq, hq2, hf, hb⟩ := hw
  refine Eb_of RJ4 rfl (by decide +kernel) (Nat.le_of_ble_eq_true rfl) (fun p e s m below meth c E hr => ?_)
  refine rb_new (ci := 1) (fs := [.null, .int 0, .int 0, .int 0]) E (C := RJ0) (T := TJ0) (N := 4) rfl iT_J0 tyJ0 tyJ0_ok (TS_of (tin_6 _ (List.mem_of_getElem? (i := 176) (by decide +kernel))) (by decide +kernel)) (TS_of (tin_6 _ (List.mem_of_getElem? (i := 177) (by decide +kernel))) (by decide +kernel)) ini_J0 (fun j hj => by
    match j, hj with
    | 0, _ => rfl
    | 1, _ => rfl
    | 2, _ => rfl
    | 3, _ => rfl) ⟨Nat.le_of_ble_eq_true rfl, Nat.le_of_ble_eq_true rfl⟩ dJ4_toString_0e30d_0 (fun x => ?_)
  refine rb_dup E dJ4_toString_0e30d_3 rfl ?_
  refine rb_aload_n E dJ4_toString_0e30d_4 rfl 0 rfl ?_
  refine rk_v (rn_I E (rest := [.ref x]) (As := [.ref b]) (b_sinit2 hq hq2 hf l D A) ml_J4_137 (TS_of (tin_6 _ (List.mem_of_getElem? (i := 179) (by decide +kernel))) (by decide +kernel)) ini_J0 yc_J0_init_81219 rfl (n := 1) ⟨by decide +kernel, by decide +kernel, by decide +kernel⟩ (by decide) rfl rfl (Nat.le_of_ble_eq_true rfl) ⟨Nat.le_of_ble_eq_true rfl, Nat.le_of_ble_eq_true rfl⟩ ⟨Nat.le_of_ble_eq_true rfl, Nat.le_of_ble_eq_true rfl⟩ dJ4_toString_0e30d_5) (fun w h => ?_)
  obtain ⟨a, g, rfl, hg⟩ := h
  exact rb_aret E hr (Or.inl ⟨_, rfl⟩) (Nat.le_of_ble_eq_true rfl) (Nat.le_of_ble_eq_true rfl) dJ4_toString_0e30d_8 ⟨d, q, f, a, g, rfl, fun j hj => by rw [hg j hj, hb j hj]⟩
end BSTR2
