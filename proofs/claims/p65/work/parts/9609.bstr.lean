/-! p65: the JDK's builder: toString -/
section BSTR
variable {p : Program} {l : Launch} {e : Env} {R : Room} {s : State} {m : MethodId} {args : Array Value} {below : List Frame} {meth : Method} {c : Code} {cells slots mc ms t1 t2 : Nat} {Q : State → Prop} {D : va_G} {tB : ClassId} {ad : Nat → Nat} {A : Nat → Prop} {nL : Nat} {own : String} {cc : ByteArray} {ws : va_W} {pc : Nat} {L : List (Nat × Value)} {st : List Value}
theorem rb_clone (E : Eb p s m args meth c D tB ad t1 t2 A own cc nL) {idx b n : Nat} {f : Nat → Int32} (q0 : Nat) (he : ws[q0]? = some (b, .inl (tB, n, .inl f))) (hf : FB f) (hl : Cond.methodLink own idx ⟨"[B", "clone", "()Ljava/lang/Object;"⟩ ∈ TS) (hR : 1 ≤ R.frames ∧ 40 ≤ R.locals) (hcs : cells + 1 ≤ R.cells ∧ slots + n ≤ R.slots) (hcat : (st.map fun v => v.category).sum ≤ 8) (d : decode cc pc = .ok (.invokevirtual idx, 3)) (kk : ∀ q, Wb p l e R s m args below meth c (cells + 1) (slots + n) Q D A nL (ws ++ [(q, .inl (tB, n, .inl f))]) (pc + 3) L (.ref q :: st)) : Wb p l e R s m args below meth c cells slots Q D A nL ws pc L (.ref b :: st) := fun H locs ls hP hD hS h => va_clone (ty := .byte) (x := (n, .inl f)) E.1 E.2.1 (E.2.2.1.trans h.1.symm) E.2.2.2.1 (E.2.2.2.2.1 _ (TSp_r hl)) (E.2.2.2.2.1 _ (TSp_r (TS_of (tin_6 _ (List.mem_of_getElem? (i := 59) (by decide +kernel))) (by decide +kernel)))) (E.2.2.2.2.1 _ (TSp_r (TS_of (tin_6 _ (List.mem_of_getElem? (i := 60) (by decide +kernel))) (by decide +kernel)))) (E.2.2.2.2.1 _ (TSp_r (TS_of (tin_6 _ (List.mem_of_getElem? (i := 61) (by decide +kernel))) (by decide +kernel)))) (E.2.2.2.2.1 _ (TSp_r (TS_of (tin_6 _ (List.mem_of_getElem? (i := 62) (by decide +kernel))) (by decide +kernel)))) E.2.2.2.2.2.2.1.2.2.2.2 E.2.2.2.2.2.1 hP hD hS E.2.2.2.2.2.2.2.1 q0 0 he rfl (va_nm_byte (E.2.2.2.2.2.1.2 0 (tB, .byte) rfl).2) (va_fit (F := fun j => .int (f j)) (fun i _ => hf i)) hR.1 (by have := hR.2; omega) hcs.1 hcs.2 d (fun q H1 _ hP1 hD1 hS1 => kk q H1 locs ls hP1 hD1 hS1 h)
theorem rb_castB (E : Eb p s m args meth c D tB ad t1 t2 A own cc nL) {idx b n : Nat} {f : Nat → Int32} (q0 : Nat) (he : ws[q0]? = some (b, .inl (tB, n, .inl f))) (hl : Cond.classLink own idx "[B" ∈ TS) (d : decode cc pc = .ok (.checkcast idx, 3)) (kk : Wb p l e R s m args below meth c cells slots Q D A nL ws (pc + 3) L (.ref b :: st)) : Wb p l e R s m args below meth c cells slots Q D A nL ws pc L (.ref b :: st) := fun H locs ls hP hD hS h => va_castA (x := (n, .inl f)) E.1 E.2.1 E.2.2.2.1 (E.2.2.2.2.1 _ (TSp_r hl)) hP q0 he (va_nm_byte (E.2.2.2.2.2.1.2 0 (tB, .byte) rfl).2) d (kk H locs ls hP hD hS h)
theorem b_checkLen {n : Nat} (hn : n < 100000) : BV yJ7_checkLength_df160 cJ7_checkLength_df160 2 0 0 0 tB ad t1 t2 [.int 0, .int (nI n)] ws (fun w => w = ws) := fun l D A => by
  refine Eb_of RJ7 rfl (by decide +kernel) (Nat.le_of_ble_eq_true rfl) (fun p e s m below meth c E hr => ?_)
  refine rb_iload_n E dJ7_checkLength_df160_0 rfl 1 rfl ?_
  refine rb_iload_n E dJ7_checkLength_df160_1 rfl 0 rfl ?_
  refine rb_icmp_ge (tgt := 37) E dJ7_checkLength_df160_2 rfl (fun _ => ?_) (fun q => absurd (nI_pos' (n := n) (by omega)) q)
  exact rb_vret E hr (Nat.le_refl _) (Nat.le_refl _) dJ7_checkLength_df160_37 rfl
theorem b_copyRB {q0 d q n : Nat} {f : Nat → Int32} (he : ws[q0]? = some (d, .inl (tB, q, .inl f))) (hf : FB f) (hn : n ≤ q) (hq : q ≤ 2500) : BR yJ7_copyOfRangeByte_39247 cJ7_copyOfRangeByte_39247 5 (some (.array .byte)) 1 1 2500 tB ad t1 t2 [.ref d, .int 0, .int (nI n)] ws (fun a w => ∃ g, w = ws ++ [eB tB a n g] ∧ ∀ j, j < n → g j = f j) := fun l D A => by
  refine Eb_of RJ7 rfl (by decide +kernel) (Nat.le_of_ble_eq_true rfl) (fun p e s m below meth c E hr => ?_)
  refine rb_iload_n E dJ7_copyOfRangeByte_39247_0 rfl 1 rfl ?_
  refine rb_iload_n E dJ7_copyOfRangeByte_39247_1 rfl 2 rfl ?_
  refine rk_v (rn_S E (rest := []) (As := [.int 0, .int (nI n)]) (b_checkLen (by omega) l D A) ct_J7_checkLength_df160 ml_J7_343 (by decide) rfl rfl (Nat.le_of_ble_eq_true rfl) ⟨Nat.le_of_ble_eq_true rfl, Nat.le_of_ble_eq_true rfl⟩ ⟨Nat.le_of_ble_eq_true rfl, Nat.le_of_ble_eq_true rfl⟩ dJ7_copyOfRangeByte_39247_2) (fun w h => ?_)
  subst h
  refine rb_iload_n E dJ7_copyOfRangeByte_39247_5 rfl 2 rfl ?_
  refine rb_iload_n E dJ7_copyOfRangeByte_39247_6 rfl 1 rfl ?_
  refine rb_isub E dJ7_copyOfRangeByte_39247_7 ?_
  have e0 : ∀ z : Nat, nI z - 0 = nI z := fun z => nI_sub (Nat.zero_le z)
  rw [e0]
  refine rb_istore_n (L' := [(3, _), (0, _), (1, _), (2, _)]) E dJ7_copyOfRangeByte_39247_8 rfl (by decide) rfl ?_
  refine rb_iload_n E dJ7_copyOfRangeByte_39247_9 rfl 0 rfl ?_
  refine rb_newb (N := n) E rfl (by omega) ⟨Nat.le_of_ble_eq_true rfl, by show 0 + n ≤ 2500; omega⟩ dJ7_copyOfRangeByte_39247_10 (fun a => ?_)
  refine rb_astore (L' := [(4, _), (3, _), (0, _), (1, _), (2, _)]) E dJ7_copyOfRangeByte_39247_12 (by decide) rfl ?_
  refine rb_aload_n E dJ7_copyOfRangeByte_39247_14 rfl 2 rfl ?_
  refine rb_iload_n E dJ7_copyOfRangeByte_39247_15 rfl 3 rfl ?_
  refine rb_aload E dJ7_copyOfRangeByte_39247_16 0 rfl ?_
  refine rb_iconst E dJ7_copyOfRangeByte_39247_18 ki_0 ?_
  refine rb_aload_n E dJ7_copyOfRangeByte_39247_19 rfl 2 rfl ?_
  refine rb_alen E q0 (app_lt he) dJ7_copyOfRangeByte_39247_20 ?_
  refine rb_iload_n E dJ7_copyOfRangeByte_39247_21 rfl 3 rfl ?_
  refine rb_isub E dJ7_copyOfRangeByte_39247_22 ?_
  rw [e0]
  refine rb_iload_n E dJ7_copyOfRangeByte_39247_23 rfl 1 rfl ?_
  refine rb_mmin E ml_J7_304 ⟨Nat.le_of_ble_eq_true rfl, Nat.le_of_ble_eq_true rfl⟩ ⟨Nat.le_of_ble_eq_true rfl, by show 0 + n ≤ 2500; omega⟩ dJ7_copyOfRangeByte_39247_24 ?_
  have em : (if nI n < nI q then nI n else nI q) = nI n := by
    by_cases h : n < q
    · rw [if_pos (nI_lt h (by omega))]
    · rw [if_neg (nI_nlt (by omega) (by omega)), show q = n by omega]
  rw [em]
  have c0 : (0 : Int32).toNatClampNeg = 0 := by decide +kernel
  have c2 : (nI n).toNatClampNeg = n := nI_clamp (by omega)
  refine rb_copyb (ws' := w ++ [eB tB a n (va_cpy f (fun _ => 0) 0 0 n)]) E q0 w.length (app_lt he) (app_at _ _) ⟨by decide +kernel, by decide +kernel, nI_pos (by omega), by rw [c0, c2]; omega, by rw [c0, c2]; omega⟩ (fun j _ => hf _) ml_J7_150 (by rw [c0, c2, app_set]) ⟨Nat.le_of_ble_eq_true rfl, Nat.le_of_ble_eq_true rfl⟩ dJ7_copyOfRangeByte_39247_27 ?_
  refine rb_aload E dJ7_copyOfRangeByte_39247_30 0 rfl ?_
  refine rb_aret E hr (Or.inr ⟨_, rfl⟩) (Nat.le_of_ble_eq_true rfl) (by show 0 + n ≤ 2500; omega) dJ7_copyOfRangeByte_39247_32 ⟨_, rfl, fun j hj => ?_⟩
  unfold va_cpy
  rw [if_pos ⟨Nat.zero_le _, by omega⟩]
  simp
theorem b_copyR {q0 d q n : Nat} {f : Nat → Int32} (he : ws[q0]? = some (d, .inl (tB, q, .inl f))) (hf : FB f) (hn : n ≤ q) (hq : q ≤ 2500) : BR yJ7_copyOfRange_39247 cJ7_copyOfRange_39247 3 (some (.array .byte)) 2 1 2500 tB ad t1 t2 [.ref d, .int 0, .int (nI n)] ws (fun a w => ∃ g, w = ws ++ [eB tB a n g] ∧ ∀ j, j < n → g j = f j) := fun l D A => by
  refine Eb_of RJ7 rfl (by decide +kernel) (Nat.le_of_ble_eq_true rfl) (fun p e s m below meth c E hr => ?_)
  refine rb_iload_n E dJ7_copyOfRange_39247_0 rfl 1 rfl ?_
  refine rb_if_ne (tgt := 10) E dJ7_copyOfRange_39247_1 rfl (fun z => absurd rfl z) (fun _ => ?_)
  refine rb_iload_n E dJ7_copyOfRange_39247_4 rfl 2 rfl ?_
  refine rb_aload_n E dJ7_copyOfRange_39247_5 rfl 0 rfl ?_
  refine rb_alen E q0 he dJ7_copyOfRange_39247_6 ?_
  refine rb_icmp_eq (tgt := 17) E dJ7_copyOfRange_39247_7 rfl (fun z => ?_) (fun z => ?_)
  · have e9 : n = q := nI_inj (by omega) (by omega) z
    subst e9
    refine rb_aload_n E dJ7_copyOfRange_39247_17 rfl 0 rfl ?_
    refine rb_clone E q0 he hf ml_J7_310 ⟨Nat.le_of_ble_eq_true rfl, Nat.le_of_ble_eq_true rfl⟩ ⟨Nat.le_of_ble_eq_true rfl, by show 0 + n ≤ 2500; omega⟩ (Nat.le_of_ble_eq_true rfl) dJ7_copyOfRange_39247_18 (fun a => ?_)
    refine rb_castB E ws.length (app_at _ _) (TS_of (tin_6 _ (List.mem_of_getElem? (i := 64) (by decide +kernel))) (by decide +kernel)) dJ7_copyOfRange_39247_21 ?_
    exact rb_aret E hr (Or.inr ⟨_, rfl⟩) (Nat.le_of_ble_eq_true rfl) (by show 0 + n ≤ 2500; omega) dJ7_copyOfRange_39247_24 ⟨f, rfl, fun _ _ => rfl⟩
  · refine rb_aload_n E dJ7_copyOfRange_39247_10 rfl 0 rfl ?_
    refine rb_iload_n E dJ7_copyOfRange_39247_11 rfl 1 rfl ?_
    refine rb_iload_n E dJ7_copyOfRange_39247_12 rfl 2 rfl ?_
    refine rk_r (rn_S E (rest := []) (As := [.ref d, .int 0, .int (nI n)]) (b_copyRB he hf hn hq l D A) ct_J7_copyOfRangeByte_39247 ml_J7_339 (by decide) rfl rfl (Nat.le_of_ble_eq_true rfl) ⟨Nat.le_of_ble_eq_true rfl, Nat.le_of_ble_eq_true rfl⟩ ⟨Nat.le_of_ble_eq_true rfl, Nat.le_of_ble_eq_true rfl⟩ dJ7_copyOfRange_39247_13) (fun a w h => ?_)
    exact rb_aret E hr (Or.inr ⟨_, rfl⟩) (Nat.le_refl _) (Nat.le_refl _) dJ7_copyOfRange_39247_16 h
end BSTR
