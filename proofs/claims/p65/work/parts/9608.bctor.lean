/-! p65: the JDK's builder's own class: append, its constructor -/
section BROW3
variable {p : Program} {l : Launch} {e : Env} {R : Room} {s : State} {m : MethodId} {args : Array Value} {below : List Frame} {meth : Method} {c : Code} {cells slots mc ms t1 t2 : Nat} {Q : State → Prop} {D : va_G} {tB : ClassId} {ad : Nat → Nat} {A : Nat → Prop} {nL : Nat} {own : String} {cc : ByteArray} {ws : va_W} {pc : Nat} {L : List (Nat × Value)} {st : List Value}
theorem rb_obj (E : Eb p s m args meth c D tB ad t1 t2 A own cc nL) {x idx : Nat} (hl : Cond.methodLink own idx Lib.objectInit ∈ TS) (hR : 1 ≤ R.frames ∧ 40 ≤ R.locals) (d : decode cc pc = .ok (.invokespecial idx, 3)) (kk : Wb p l e R s m args below meth c cells slots Q D A nL ws (pc + 3) L []) : Wb p l e R s m args below meth c cells slots Q D A nL ws pc L [.ref x] := fun H locs ls hP hD hS h => W.objInit E.1 E.2.1 E.2.2.2.1 (E.2.2.2.2.1 _ (TSp_r hl)) (E.2.2.2.2.1 _ (TSp_r jn_obj)) (E.2.2.2.2.1 _ (TSp_r jc_obj)) rfl (h.1.trans E.2.2.1.symm) rfl d hR.1 (by have := hR.2; show 2 * 0 + 0 + 12 ≤ R.locals; omega) (W.eq (g2 := F0 m (pc + 3) ls []) rfl (kk H locs ls hP hD hS h))
theorem rb_putfF (E : Eb p s m args meth c D tB ad t1 t2 A own cc nL) (hnm9 : meth.name = "<init>") {b ci j N idx : Nat} {C ref : String} {T : u_T} {fs : List Value} {ty : FieldType} {v : Value} {ws' : va_W} (q0 : Nat) (he : ws[q0]? = some (b, .inr (ci, fs))) (hcl : clB[ci]? = some (C, T, N)) (hin : ∀ w ∈ u_ws C T N, w ∈ TS) (ty0 : Nat → FieldType) (hty : ∀ k, k < N → parseFieldDescriptor (T k).2.2.1 = some (ty0 k)) (hnm : ∀ a, a < N → ∀ b, b < N → a ≠ b → (T a).2.1 ≠ (T b).2.1) (hj : j < N) (hl : Cond.fieldLink own idx ref (T j).2.1 (T j).2.2.1 ∈ TS) (href : (T j).1 = ref) (hfin : (T j).2.2.2 = true) (hdecl : (T j).1 = own) (hd : parseFieldDescriptor (T j).2.2.1 = some ty) (hn : narrow ty v = v) (hfit : fits ty v = true) (hlen : j < fs.length) (hset : ws.set q0 (b, .inr (ci, fs.set j v)) = ws') (d : decode cc pc = .ok (.putfield idx, 3)) (kk : Wb p l e R s m args below meth c cells slots Q D A nL ws' (pc + 3) L st) : Wb p l e R s m args below meth c cells slots Q D A nL ws pc L (v :: .ref b :: st) := fun H locs ls hP hD hS h => va_putF (D := D) (ci := ci) E.1 E.2.1 E.2.2.2.2.1 (fun w q => TSp_r (hin w q)) ty0 hty hnm E.2.2.2.1 E.2.2.2.2.2.1 hP hD hS q0 he hcl j hj (E.2.2.2.2.1 _ (TSp_r hl)) (fun _ q => href ▸ q) hfin hnm9 hdecl hd hn hfit hlen d (fun H1 locs1 hP1 hD1 hS1 => kk H1 locs1 ls (hset ▸ hP1) (hset ▸ hD1) hS1 h)
theorem rb_new (E : Eb p s m args meth c D tB ad t1 t2 A own cc nL) {ci N idx : Nat} {C : String} {T : u_T} {fs : List Value} (hcl : clB[ci]? = some (C, T, N)) (hin : ∀ w ∈ u_ws C T N, w ∈ TS) (ty : Nat → FieldType) (hty : ∀ k, k < N → parseFieldDescriptor (T k).2.2.1 = some (ty k)) (hl : Cond.classLink own idx C ∈ TS) (hi : Cond.instantiable C N ∈ TS) (hini : Cond.initialized C ∈ TS) (hfs : ∀ j, j < N → defaultValue (ty j) = vp_V fs j) (hcs : cells + 1 ≤ R.cells ∧ slots + N ≤ R.slots) (d : decode cc pc = .ok (.new idx, 3)) (kk : ∀ q : Nat, Wb p l e R s m args below meth c (cells + 1) (slots + N) Q D A nL (ws ++ [(q, .inr (ci, fs))]) (pc + 3) L (.ref q :: st)) : Wb p l e R s m args below meth c cells slots Q D A nL ws pc L st := fun H locs ls hP hD hS h => va_new (ci := ci) (fs := fs) E.1 E.2.1 E.2.2.2.2.1 (fun w q => TSp_r (hin w q)) ty hty E.2.2.2.1 (E.2.2.2.2.1 _ (TSp_r hl)) (E.2.2.2.2.1 _ (TSp_r hi)) (E.2.2.2.2.1 _ (TSp_r hini)) E.2.2.2.2.2.1 hP hD hS E.2.2.2.2.2.2.2.1 hcl hfs hcs.1 hcs.2 d (fun q H1 hP1 hD1 hS1 => kk q H1 locs ls hP1 hD1 hS1 h)
end BROW3
theorem Eb_ofI {l : Launch} {y : MethodName} {bytes : ByteArray} {maxL d mc ms t1 t2 : Nat} {ret : Option FieldType} {tB : ClassId} {ad : Nat → Nat} {av : List Value} {ws : va_W} {D : va_G} {A : Nat → Prop} {Qc : Array Value → State → Outcome → State → Prop} (own : String) (hown : y.cls = own) (hy : plainName y.cls = true) (hin : y.name = "<init>") (hlen : (lg_sl av).length ≤ maxL)
    (body : ∀ (p : Program) (e : Env) (s : State) (m : MethodId) (below : List Frame) (meth : Method) (c : Code), Eb p s m av.toArray meth c D tB ad t1 t2 A own bytes maxL → meth.sig.returnType = ret → meth.name = "<init>" → Wb p l e (rmC d mc ms) s m av.toArray below meth c 0 0 (MQ below Qc av.toArray s mc ms A) D A maxL ws 0 (lv_args 0 av) []) : Met l y (Cond.code y bytes maxL ret :: TSp) (rmC d mc ms) (va_Pc av (PreB D tB ad t1 t2 A ws)) Qc mc ms A := by
  refine Met.ofW (cc := bytes) (maxL := maxL) (ret := ret) hy rfl ?_
  intro p e s m args below meth c s₁ B hml hv
  obtain ⟨rfl, hP, hD, hK, hS, hA⟩ := hv
  have hts := atoms_spec (ws := Cond.code y bytes maxL ret :: TSp) B.pre
  have hts : ∀ w ∈ TSp, w.before av.toArray s = true := fun w h => hts w (List.mem_cons_of_mem _ h)
  have ho : s.vm.findClass own = some m.cls := by rw [← hown]; exact findClass_of_methodNamed B.named
  have hl := lv_entry av (n := maxL) hlen
  rw [lg_entry_eq]
  generalize (lg_sl av ++ List.replicate (maxL - (lg_sl av).length) Slot.unset).toArray = ls at hl ⊢
  exact body p e s m below meth c ⟨B.exec, B.bytes, hml, ho, hts, hK, hS, hA, B.notSynchronized⟩ B.returns ((name_of_methodNamed B.named B.method).1.trans hin) s.heap [] ls hP hD va_S.rf hl
section BCTOR
variable {tB : ClassId} {ad : Nat → Nat} {t1 t2 : Nat} {ws : va_W} {b : Nat} {T : List Nat}
theorem BW.at0 (h : BW tB b T ws) : ∃ fs, ws[0]? = some (b, .inr (0, fs)) := by
  obtain ⟨d, q, f, rfl, -⟩ := h
  exact ⟨_, rfl⟩
theorem B_appS {i : Nat} (hi : i < nS) (hw : BW tB b T ws) (hl : T.length + lenS.getD i 0 ≤ 1200) : BR yJ4_append_15ec4 cJ4_append_15ec4 2 (some (.object RJ4)) 5 1 2500 tB ad t1 t2 [.ref b, .ref (ad (2200 + i))] ws (fun a w => a = b ∧ BW tB b (T ++ byN i) w) := fun l D A => by
  obtain ⟨fs, h0⟩ := hw.at0
  refine Eb_of RJ4 rfl (by decide +kernel) (Nat.le_of_ble_eq_true rfl) (fun p e s m below meth c E hr => ?_)
  refine rb_aload_n E dJ4_append_15ec4_0 rfl 0 rfl ?_
  refine rb_aload_n E dJ4_append_15ec4_1 rfl 1 rfl ?_
  refine rk_r (rn_SU E (rest := []) (As := [.ref (ad (2200 + i))]) h0 (b_appS hi hw hl l D A) ml_J4_29 (TS_of (tin_6 _ (List.mem_of_getElem? (i := 24) (by decide +kernel))) (by decide +kernel)) sup_B (TS_of (tin_6 _ (List.mem_of_getElem? (i := 23) (by decide +kernel))) (by decide +kernel)) ini_J5 (TS_of (tin_6 _ (List.mem_of_getElem? (i := 34) rfl)) (by decide +kernel)) (by decide +kernel) (n := 1) (by decide +kernel) (by decide) rfl rfl (Nat.le_of_ble_eq_true rfl) ⟨Nat.le_of_ble_eq_true rfl, Nat.le_of_ble_eq_true rfl⟩ ⟨Nat.le_of_ble_eq_true rfl, Nat.le_of_ble_eq_true rfl⟩ dJ4_append_15ec4_2) (fun q w h => ?_)
  obtain ⟨rfl, h⟩ := h
  refine rb_pop E dJ4_append_15ec4_5 rfl ?_
  refine rb_aload_n E dJ4_append_15ec4_6 rfl 0 rfl ?_
  exact rb_aret E hr (Or.inl ⟨_, rfl⟩) (Nat.le_refl _) (Nat.le_refl _) dJ4_append_15ec4_7 ⟨rfl, h⟩
theorem B_appC {k : Nat} (hk : k < 128) (hw : BW tB b T ws) (hl : T.length + 1 ≤ 1200) : BR yJ4_append_cf468 cJ4_append_cf468 2 (some (.object RJ4)) 5 1 2500 tB ad t1 t2 [.ref b, .int (nI k)] ws (fun a w => a = b ∧ BW tB b (T ++ [k]) w) := fun l D A => by
  obtain ⟨fs, h0⟩ := hw.at0
  refine Eb_of RJ4 rfl (by decide +kernel) (Nat.le_of_ble_eq_true rfl) (fun p e s m below meth c E hr => ?_)
  refine rb_aload_n E dJ4_append_cf468_0 rfl 0 rfl ?_
  refine rb_iload_n E dJ4_append_cf468_1 rfl 1 rfl ?_
  refine rk_r (rn_SU E (rest := []) (As := [.int (nI k)]) h0 (b_appC hk hw hl l D A) ml_J4_50 (TS_of (tin_7 _ (List.mem_of_getElem? (i := 1) (by decide +kernel))) (by decide +kernel)) sup_B (TS_of (tin_6 _ (List.mem_of_getElem? (i := 139) (by decide +kernel))) (by decide +kernel)) ini_J5 (TS_of (tin_6 _ (List.mem_of_getElem? (i := 140) rfl)) (by decide +kernel)) (by decide +kernel) (n := 1) (by decide +kernel) (by decide) rfl rfl (Nat.le_of_ble_eq_true rfl) ⟨Nat.le_of_ble_eq_true rfl, Nat.le_of_ble_eq_true rfl⟩ ⟨Nat.le_of_ble_eq_true rfl, Nat.le_of_ble_eq_true rfl⟩ dJ4_append_cf468_2) (fun q w h => ?_)
  obtain ⟨rfl, h⟩ := h
  refine rb_pop E dJ4_append_cf468_5 rfl ?_
  refine rb_aload_n E dJ4_append_cf468_6 rfl 0 rfl ?_
  exact rb_aret E hr (Or.inl ⟨_, rfl⟩) (Nat.le_refl _) (Nat.le_refl _) dJ4_append_cf468_7 ⟨rfl, h⟩
theorem B_appI {v : Nat} (hv : v < 100) (hw : BW tB b T ws) (hl : T.length + 2 ≤ 1200) : BR yJ4_append_bf812 cJ4_append_bf812 2 (some (.object RJ4)) 5 1 2500 tB ad t1 t2 [.ref b, .int (nI v)] ws (fun a w => a = b ∧ BW tB b (T ++ dg v) w) := fun l D A => by
  obtain ⟨fs, h0⟩ := hw.at0
  refine Eb_of RJ4 rfl (by decide +kernel) (Nat.le_of_ble_eq_true rfl) (fun p e s m below meth c E hr => ?_)
  refine rb_aload_n E dJ4_append_bf812_0 rfl 0 rfl ?_
  refine rb_iload_n E dJ4_append_bf812_1 rfl 1 rfl ?_
  refine rk_r (rn_SU E (rest := []) (As := [.int (nI v)]) h0 (b_appI hv hw hl l D A) ml_J4_53 (TS_of (tin_7 _ (List.mem_of_getElem? (i := 2) (by decide +kernel))) (by decide +kernel)) sup_B (TS_of (tin_6 _ (List.mem_of_getElem? (i := 152) (by decide +kernel))) (by decide +kernel)) ini_J5 (TS_of (tin_6 _ (List.mem_of_getElem? (i := 153) rfl)) (by decide +kernel)) (by decide +kernel) (n := 1) (by decide +kernel) (by decide) rfl rfl (Nat.le_of_ble_eq_true rfl) ⟨Nat.le_of_ble_eq_true rfl, Nat.le_of_ble_eq_true rfl⟩ ⟨Nat.le_of_ble_eq_true rfl, Nat.le_of_ble_eq_true rfl⟩ dJ4_append_bf812_2) (fun q w h => ?_)
  obtain ⟨rfl, h⟩ := h
  refine rb_pop E dJ4_append_bf812_5 rfl ?_
  refine rb_aload_n E dJ4_append_bf812_6 rfl 0 rfl ?_
  exact rb_aret E hr (Or.inl ⟨_, rfl⟩) (Nat.le_refl _) (Nat.le_refl _) dJ4_append_bf812_7 ⟨rfl, h⟩
/-- the method that stands for the superclass's append -/
theorem B_bridge {i : Nat} (hi : i < nS) (hw : BW tB b T ws) (hl : T.length + lenS.getD i 0 ≤ 1200) : BR yJ4_append_cf1ce cJ4_append_cf1ce 2 (some (.object RJ5)) 6 1 2500 tB ad t1 t2 [.ref b, .ref (ad (2200 + i))] ws (fun a w => a = b ∧ BW tB b (T ++ byN i) w) := fun l D A => by
  obtain ⟨fs, h0⟩ := hw.at0
  refine Eb_of RJ4 rfl (by decide +kernel) (Nat.le_of_ble_eq_true rfl) (fun p e s m below meth c E hr => ?_)
  refine rb_aload_n E dJ4_append_cf1ce_0 rfl 0 rfl ?_
  refine rb_aload_n E dJ4_append_cf1ce_1 rfl 1 rfl ?_
  refine rk_r (rn_B E (rest := []) (As := [.ref (ad (2200 + i))]) h0 (B_appS hi hw hl l D A) cv_J4_append_15ec4 ml_J4_23 (by decide) rfl rfl (Nat.le_of_ble_eq_true rfl) ⟨Nat.le_of_ble_eq_true rfl, Nat.le_of_ble_eq_true rfl⟩ ⟨Nat.le_of_ble_eq_true rfl, Nat.le_of_ble_eq_true rfl⟩ dJ4_append_cf1ce_2) (fun q w h => ?_)
  obtain ⟨rfl, h⟩ := h
  exact rb_aret E hr (Or.inl ⟨_, rfl⟩) (Nat.le_refl _) (Nat.le_refl _) dJ4_append_cf1ce_5 ⟨rfl, h⟩
theorem bw_O {own : String} {idx : Nat} {x y : MethodName} {ws : List Cond} (h1 : Cond.methodLink own idx x ∈ TS) (h2 : Cond.sameMethod x.cls x.cls x.name x.desc ∈ TS) (h0 : Cond.instanceMethod ⟨x.cls, x.name, x.desc⟩ ∈ TS) (h3 : Cond.selects RJ4 x y ∈ TS) (h4 : Cond.instanceMethod y ∈ TS) (h5 : Cond.initialized y.cls ∈ TS) (h6 : ∀ w ∈ ws, w ∈ TSp) : GoodIn TSp (va_wsO own idx RJ4 x.cls x y ws) := TSp_good fun w hw => by
  unfold va_wsO at hw
  simp only [List.cons_append, List.nil_append, List.mem_cons] at hw
  rcases hw with rfl | rfl | rfl | rfl | rfl | rfl | hw
  · exact TSp_r h1
  · exact TSp_r h2
  · exact TSp_r h0
  · exact TSp_r h3
  · exact TSp_r h4
  · exact TSp_r h5
  · exact h6 w hw
theorem cd_bridge : Cond.code yJ4_append_cf1ce cJ4_append_cf1ce 2 (some (.object RJ5)) ∈ TS := TS_of (tin_6 _ (List.mem_of_getElem? (i := 27) rfl)) (by decide +kernel)
theorem cd_appS : Cond.code yJ5_append_cf1ce cJ5_append_cf1ce 3 (some (.object RJ5)) ∈ TS := TS_of (tin_6 _ (List.mem_of_getElem? (i := 34) rfl)) (by decide +kernel)
theorem wo_bridge : GoodIn TSp (va_wsO RJ5 43 RJ4 yJ5_append_cf1ce.cls yJ5_append_cf1ce yJ4_append_cf1ce (Cond.code yJ4_append_cf1ce cJ4_append_cf1ce 2 (some (.object RJ5)) :: TSp)) := bw_O ml_J5_43 (TS_of (tin_6 _ (List.mem_of_getElem? (i := 24) (by decide +kernel))) (by decide +kernel)) (TS_of (tin_6 _ (List.mem_of_getElem? (i := 23) (by decide +kernel))) (by decide +kernel)) (TS_of (tin_6 _ (List.mem_of_getElem? (i := 25) (by decide +kernel))) (by decide +kernel)) (TS_of (tin_6 _ (List.mem_of_getElem? (i := 26) (by decide +kernel))) (by decide +kernel)) ini_J4 (fun w hw => (List.mem_cons.mp hw).elim (fun q => by rw [q]; exact TSp_r cd_bridge) id)
/-- a new builder, made with a text -/
theorem b_init {i : Nat} (hi : i < nS) (hl : lenS.getD i 0 ≤ 400) : BV yJ5_init_a7421 cJ5_init_a7421 5 7 2 3000 tB ad t1 t2 [.ref b, .ref (ad (2200 + i))] [(b, .inr (0, [.null, .int 0, .int 0, .int 0]))] (fun w => BW tB b (byN i) w) := fun l D A => by
  refine Eb_of RJ5 rfl (by decide +kernel) (Nat.le_of_ble_eq_true rfl) (fun p e s m below meth c E hr => ?_)
  refine rb_aload_n E dJ5_init_a7421_0 rfl 0 rfl ?_
  refine rb_obj E ml_J5_3 ⟨Nat.le_of_ble_eq_true rfl, Nat.le_of_ble_eq_true rfl⟩ dJ5_init_a7421_1 ?_
  refine rb_aload_n E dJ5_init_a7421_4 rfl 1 rfl ?_
  refine rk_i (rn_V E (rest := []) hi (b_length hi l D A) cv_J0_length_8abf5 ml_J5_32 (by decide) rfl rfl (Nat.le_of_ble_eq_true rfl) ⟨Nat.le_of_ble_eq_true rfl, Nat.le_of_ble_eq_true rfl⟩ ⟨Nat.le_of_ble_eq_true rfl, Nat.le_of_ble_eq_true rfl⟩ dJ5_init_a7421_5) (fun r w h => ?_)
  obtain ⟨rfl, rfl⟩ := h
  refine rb_istore_n (L' := [(2, _), (0, _), (1, _)]) E dJ5_init_a7421_8 rfl (by decide) rfl ?_
  refine rb_iload_n E dJ5_init_a7421_9 rfl 0 rfl ?_
  refine rb_ldci E kc_J5_38 dJ5_init_a7421_10 ?_
  refine rb_icmp_ge (tgt := 22) E dJ5_init_a7421_12 rfl (fun q => absurd q (by have := nI_ge (a := lenS.getD i 0) (b := 2147483631) (by omega) (by omega); exact this)) (fun _ => ?_)
  refine rb_iload_n E dJ5_init_a7421_15 rfl 0 rfl ?_
  refine rb_bipush E dJ5_init_a7421_16 kb_16 ?_
  refine rb_iadd E dJ5_init_a7421_18 ?_
  have e16 : nI (lenS.getD i 0) + 16 = nI (lenS.getD i 0 + 16) := nI_add _ 16
  rw [e16]
  refine rb_goto (tgt := 24) E dJ5_init_a7421_19 rfl ?_
  refine rb_istore_n (L' := [(3, _), (2, _), (0, _), (1, _)]) E dJ5_init_a7421_24 rfl (by decide) rfl ?_
  refine rb_aload_n E dJ5_init_a7421_25 rfl 3 rfl ?_
  refine rk_i (rn_V E (rest := []) hi (b_coder hi l D A) cv_J0_coder_7d493 ml_J5_40 (by decide) rfl rfl (Nat.le_of_ble_eq_true rfl) ⟨Nat.le_of_ble_eq_true rfl, Nat.le_of_ble_eq_true rfl⟩ ⟨Nat.le_of_ble_eq_true rfl, Nat.le_of_ble_eq_true rfl⟩ dJ5_init_a7421_26) (fun r w h => ?_)
  obtain ⟨rfl, rfl⟩ := h
  refine rb_istore (L' := [(4, _), (3, _), (2, _), (0, _), (1, _)]) E dJ5_init_a7421_29 (by decide) rfl ?_
  refine rb_aload_n E dJ5_init_a7421_31 rfl 3 rfl ?_
  refine rb_iload E dJ5_init_a7421_32 0 rfl ?_
  refine rb_putf (ws' := [(b, .inr (0, [.null, .int 0, .int 0, .int 0]))]) E 0 rfl (C := RJ4) (T := TJ4) (N := 4) (j := 1) rfl iT_J4 tyJ4 tyJ4_ok nmJ4 (by decide) fl_J5_22 rfl rfl rfl (by decide +kernel) (by decide +kernel) (Nat.le_of_ble_eq_true rfl) rfl dJ5_init_a7421_34 ?_
  refine rb_aload_n E dJ5_init_a7421_37 rfl 3 rfl ?_
  refine rb_iload E dJ5_init_a7421_38 0 rfl ?_
  refine rb_if_ne (tgt := 49) E dJ5_init_a7421_40 rfl (fun q => absurd rfl q) (fun _ => ?_)
  refine rb_iload_n E dJ5_init_a7421_43 rfl 1 rfl ?_
  refine rb_newb (N := lenS.getD i 0 + 16) E rfl (by omega) ⟨Nat.le_of_ble_eq_true rfl, by show 0 + (lenS.getD i 0 + 16) ≤ 3000; omega⟩ dJ5_init_a7421_44 (fun d => ?_)
  refine rb_goto (tgt := 53) E dJ5_init_a7421_46 rfl ?_
  refine rb_putf (ws' := wB tB b d (lenS.getD i 0 + 16) (fun _ => 0) 0) E 0 rfl (C := RJ4) (T := TJ4) (N := 4) (j := 0) rfl iT_J4 tyJ4 tyJ4_ok nmJ4 (by decide) fl_J5_15 rfl rfl rfl rfl rfl (Nat.le_of_ble_eq_true rfl) rfl dJ5_init_a7421_53 ?_
  refine rb_aload_n E dJ5_init_a7421_56 rfl 3 rfl ?_
  refine rb_aload_n E dJ5_init_a7421_57 rfl 4 rfl ?_
  have hw : BW tB b [] (wB tB b d (lenS.getD i 0 + 16) (fun _ => 0) 0) := ⟨d, _, _, rfl, Nat.zero_le _, by omega, fb_0, fun j hj => absurd hj (Nat.not_lt_zero j)⟩
  refine rk_r (rn_O E (x := yJ5_append_cf1ce) (rest := []) (As := [.ref (ad (2200 + i))]) rfl (B_bridge hi hw (by show 0 + lenS.getD i 0 ≤ 1200; omega) l D A) wo_bridge (TSp_r cd_appS) (n := 1) ⟨by decide +kernel, by decide +kernel, by decide +kernel⟩ (by decide) rfl rfl (Nat.le_of_ble_eq_true rfl) ⟨Nat.le_of_ble_eq_true rfl, Nat.le_of_ble_eq_true rfl⟩ ⟨Nat.le_of_ble_eq_true rfl, by show 0 + (lenS.getD i 0 + 16) + 2500 ≤ 3000; omega⟩ dJ5_init_a7421_58) (fun q w h => ?_)
  obtain ⟨rfl, h⟩ := h
  refine rb_pop E dJ5_init_a7421_61 rfl ?_
  exact rb_vret E hr (Nat.le_of_ble_eq_true rfl) (by show 0 + (lenS.getD i 0 + 16) + 2500 ≤ 3000; omega) dJ5_init_a7421_62 h
theorem B_init {i : Nat} (hi : i < nS) (hl : lenS.getD i 0 ≤ 400) : BV yJ4_init_a7421 cJ4_init_a7421 2 8 2 3000 tB ad t1 t2 [.ref b, .ref (ad (2200 + i))] [(b, .inr (0, [.null, .int 0, .int 0, .int 0]))] (fun w => BW tB b (byN i) w) := fun l D A => by
  refine Eb_of RJ4 rfl (by decide +kernel) (Nat.le_of_ble_eq_true rfl) (fun p e s m below meth c E hr => ?_)
  refine rb_aload_n E dJ4_init_a7421_0 rfl 0 rfl ?_
  refine rb_aload_n E dJ4_init_a7421_1 rfl 1 rfl ?_
  refine rk_v (rn_I E (rest := []) (As := [.ref (ad (2200 + i))]) (b_init hi hl l D A) ml_J4_7 (TS_of (tin_6 _ (List.mem_of_getElem? (i := 8) (by decide +kernel))) (by decide +kernel)) ini_J5 yc_J5_init_a7421 rfl (n := 1) ⟨by decide +kernel, by decide +kernel, by decide +kernel⟩ (by decide) rfl rfl (Nat.le_of_ble_eq_true rfl) ⟨Nat.le_of_ble_eq_true rfl, Nat.le_of_ble_eq_true rfl⟩ ⟨Nat.le_of_ble_eq_true rfl, Nat.le_of_ble_eq_true rfl⟩ dJ4_init_a7421_2) (fun w h => ?_)
  exact rb_vret E hr (Nat.le_refl _) (Nat.le_refl _) dJ4_init_a7421_5 h
end BCTOR
