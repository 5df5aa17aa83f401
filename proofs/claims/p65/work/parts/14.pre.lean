theorem lq_X12 (own : String) : Lim RX12 ≤ Lim own := Nat.le_trans (Nat.le_of_eq (by decide +kernel)) (Lim_ge own)
theorem lq_X0 (own : String) : Lim RX0 ≤ Lim own := Nat.le_trans (Nat.le_of_eq (by decide +kernel)) (Lim_ge own)
theorem lq_X1 (own : String) : Lim RX1 ≤ Lim own := Nat.le_trans (Nat.le_of_eq (by decide +kernel)) (Lim_ge own)
theorem lq_X2 (own : String) : Lim RX2 ≤ Lim own := Nat.le_trans (Nat.le_of_eq (by decide +kernel)) (Lim_ge own)
theorem lq_X3 (own : String) : Lim RX3 ≤ Lim own := Nat.le_trans (Nat.le_of_eq (by decide +kernel)) (Lim_ge own)
theorem lq_X4 (own : String) : Lim RX4 ≤ Lim own := Nat.le_trans (Nat.le_of_eq (by decide +kernel)) (Lim_ge own)
theorem lq_X5 (own : String) : Lim RX5 ≤ Lim own := Nat.le_trans (Nat.le_of_eq (by decide +kernel)) (Lim_ge own)
theorem lq_X6 (own : String) : Lim RX6 ≤ Lim own := Nat.le_trans (Nat.le_of_eq (by decide +kernel)) (Lim_ge own)
theorem lq_X7 (own : String) : Lim RX7 ≤ Lim own := Nat.le_trans (Nat.le_of_eq (by decide +kernel)) (Lim_ge own)
theorem lq_X8 (own : String) : Lim RX8 ≤ Lim own := Nat.le_trans (Nat.le_of_eq (by decide +kernel)) (Lim_ge own)
theorem lq_X9 (own : String) : Lim RX9 ≤ Lim own := Nat.le_trans (Nat.le_of_eq (by decide +kernel)) (Lim_ge own)
theorem lq_X10 (own : String) : Lim RX10 ≤ Lim own := Nat.le_trans (Nat.le_of_eq (by decide +kernel)) (Lim_ge own)
theorem lq_X11 (own : String) : Lim RX11 ≤ Lim own := Nat.le_trans (Nat.le_of_eq (by decide +kernel)) (Lim_ge own)
theorem lq_X13 (own : String) : Lim RX13 ≤ Lim own := Nat.le_trans (Nat.le_of_eq (by decide +kernel)) (Lim_ge own)
theorem lq_J5 (own : String) : Lim RJ5 ≤ Lim own := Nat.le_trans (Nat.le_of_eq (by decide +kernel)) (Lim_ge own)
theorem lq_Jx8e188 (own : String) : Lim RJx8e188 ≤ Lim own := Nat.le_trans (Nat.le_of_eq (by decide +kernel)) (Lim_ge own)
theorem lq_Jx29ce0 (own : String) : Lim RJx29ce0 ≤ Lim own := Nat.le_trans (Nat.le_of_eq (by decide +kernel)) (Lim_ge own)
theorem lq_J6 (own : String) : Lim RJ6 ≤ Lim own := Nat.le_trans (Nat.le_of_eq (by decide +kernel)) (Lim_ge own)
theorem lq_J9 (own : String) : Lim RJ9 ≤ Lim own := Nat.le_trans (Nat.le_of_eq (by decide +kernel)) (Lim_ge own)
theorem lq_J0 (own : String) : Lim RJ0 ≤ Lim own := Nat.le_trans (Nat.le_of_eq (by decide +kernel)) (Lim_ge own)
theorem lq_J4 (own : String) : Lim RJ4 ≤ Lim own := Nat.le_trans (Nat.le_of_eq (by decide +kernel)) (Lim_ge own)
theorem lq_J1 (own : String) : Lim RJ1 ≤ Lim own := Nat.le_trans (Nat.le_of_eq (by decide +kernel)) (Lim_ge own)
theorem lq_J2 (own : String) : Lim RJ2 ≤ Lim own := Nat.le_trans (Nat.le_of_eq (by decide +kernel)) (Lim_ge own)
theorem lq_J10 (own : String) : Lim RJ10 ≤ Lim own := Nat.le_trans (Nat.le_of_eq (by decide +kernel)) (Lim_ge own)
theorem lq_J7 (own : String) : Lim RJ7 ≤ Lim own := Nat.le_trans (Nat.le_of_eq (by decide +kernel)) (Lim_ge own)
theorem lq_J8 (own : String) : Lim RJ8 ≤ Lim own := Nat.le_trans (Nat.le_of_eq (by decide +kernel)) (Lim_ge own)
theorem lq_J3 (own : String) : Lim RJ3 ≤ Lim own := Nat.le_trans (Nat.le_of_eq (by decide +kernel)) (Lim_ge own)
abbrev TM : Type := Nat → Nat → Int32
theorem kb_6 : (Int8.ofInt 6).toInt32 = 6 := by decide +kernel
theorem kb_7 : (Int8.ofInt 7).toInt32 = 7 := by decide +kernel
theorem kb_8 : (Int8.ofInt 8).toInt32 = 8 := by decide +kernel
theorem kb_9 : (Int8.ofInt 9).toInt32 = 9 := by decide +kernel
theorem kb_10 : (Int8.ofInt 10).toInt32 = 10 := by decide +kernel
theorem kb_12 : (Int8.ofInt 12).toInt32 = 12 := by decide +kernel
theorem kb_15 : (Int8.ofInt 15).toInt32 = 15 := by decide +kernel
theorem kb_16 : (Int8.ofInt 16).toInt32 = 16 := by decide +kernel
theorem kb_17 : (Int8.ofInt 17).toInt32 = 17 := by decide +kernel
theorem kb_20 : (Int8.ofInt 20).toInt32 = 20 := by decide +kernel
theorem kb_24 : (Int8.ofInt 24).toInt32 = 24 := by decide +kernel
theorem kb_30 : (Int8.ofInt 30).toInt32 = 30 := by decide +kernel
theorem kb_32 : (Int8.ofInt 32).toInt32 = 32 := by decide +kernel
theorem kb_45 : (Int8.ofInt 45).toInt32 = 45 := by decide +kernel
theorem kb_46 : (Int8.ofInt 46).toInt32 = 46 := by decide +kernel
theorem kb_48 : (Int8.ofInt 48).toInt32 = 48 := by decide +kernel
theorem kb_57 : (Int8.ofInt 57).toInt32 = 57 := by decide +kernel
theorem kb_60 : (Int8.ofInt 60).toInt32 = 60 := by decide +kernel
theorem kb_61 : (Int8.ofInt 61).toInt32 = 61 := by decide +kernel
theorem kb_97 : (Int8.ofInt 97).toInt32 = 97 := by decide +kernel
theorem kb_99 : (Int8.ofInt 99).toInt32 = 99 := by decide +kernel
theorem kb_122 : (Int8.ofInt 122).toInt32 = 122 := by decide +kernel
theorem kb_124 : (Int8.ofInt 124).toInt32 = 124 := by decide +kernel
theorem ki_m1 : Int32.ofInt (-1) = -1 := by decide +kernel
theorem ki_0 : Int32.ofInt 0 = 0 := by decide +kernel
theorem ki_1 : Int32.ofInt 1 = 1 := by decide +kernel
theorem ki_2 : Int32.ofInt 2 = 2 := by decide +kernel
theorem ki_3 : Int32.ofInt 3 = 3 := by decide +kernel
theorem ki_4 : Int32.ofInt 4 = 4 := by decide +kernel
theorem ki_5 : Int32.ofInt 5 = 5 := by decide +kernel
theorem ks_200 : (Int16.ofInt 200).toInt32 = 200 := by decide +kernel
theorem ks_255 : (Int16.ofInt 255).toInt32 = 255 := by decide +kernel
theorem ks_500 : (Int16.ofInt 500).toInt32 = 500 := by decide +kernel
theorem ks_10000 : (Int16.ofInt 10000).toInt32 = 10000 := by decide +kernel
theorem kc_X10_78 : Cond.constant RX10 78 100000 ∈ TS := TS_of (tin_2 _ (List.mem_of_getElem? (i := 182) (by decide +kernel))) (by decide +kernel)
theorem kc_L_7 : Cond.constant RL 7 2147483647 ∈ TS := TS_of (tin_3 _ (List.mem_of_getElem? (i := 194) (by decide +kernel))) (by decide +kernel)
theorem kc_J5_38 : Cond.constant RJ5 38 2147483631 ∈ TS := TS_of (tin_6 _ (List.mem_of_getElem? (i := 12) (by decide +kernel))) (by decide +kernel)
theorem kc_J5_39 : Cond.constant RJ5 39 2147483647 ∈ TS := TS_of (tin_6 _ (List.mem_of_getElem? (i := 13) (by decide +kernel))) (by decide +kernel)
theorem kc_J2_20 : Cond.constant RJ2 20 1073741823 ∈ TS := TS_of (tin_6 _ (List.mem_of_getElem? (i := 21) (by decide +kernel))) (by decide +kernel)
theorem kc_J8_200 : Cond.constant RJ8 200 2147483639 ∈ TS := TS_of (tin_6 _ (List.mem_of_getElem? (i := 51) (by decide +kernel))) (by decide +kernel)
theorem lk_ne {x a : Int32} {z : Int} (h : ¬ x = a) (hz : a.toInt = z) : ¬ z = x.toInt := fun q => h (Int32.toInt_inj.mp (by rw [hz]; exact q.symm))
theorem jc_max : Cond.code Lib.Math.max.name Lib.Math.max.code 2 (some .int) ∈ TS := TS_of (tin_4 _ (List.mem_of_getElem? (i := 171) (by decide +kernel))) (by decide +kernel)
theorem jt_max : Cond.static Lib.Math.max.name ∈ TS := TS_of (tin_4 _ (List.mem_of_getElem? (i := 170) (by decide +kernel))) (by decide +kernel)
theorem jc_min : Cond.code Lib.Math.min.name Lib.Math.min.code 2 (some .int) ∈ TS := TS_of (tin_2 _ (List.mem_of_getElem? (i := 146) (by decide +kernel))) (by decide +kernel)
theorem jt_min : Cond.static Lib.Math.min.name ∈ TS := TS_of (tin_2 _ (List.mem_of_getElem? (i := 145) (by decide +kernel))) (by decide +kernel)
theorem jc_abs : Cond.code Lib.Math.abs.name Lib.Math.abs.code 1 (some .int) ∈ TS := TS_of (tin_5 _ (List.mem_of_getElem? (i := 129) (by decide +kernel))) (by decide +kernel)
theorem jt_abs : Cond.static Lib.Math.abs.name ∈ TS := TS_of (tin_5 _ (List.mem_of_getElem? (i := 128) (by decide +kernel))) (by decide +kernel)
theorem ji_math : Cond.initialized "java/lang/Math" ∈ TS := TS_of (tin_1 _ (List.mem_of_getElem? (i := 17) (by decide +kernel))) (by decide +kernel)
theorem ji_sys : Cond.initialized "java/lang/System" ∈ TS := TS_of (tin_1 _ (List.mem_of_getElem? (i := 23) (by decide +kernel))) (by decide +kernel)
theorem jt_copy : Cond.static arraycopyName ∈ TS := TS_of (tin_3 _ (List.mem_of_getElem? (i := 171) (by decide +kernel))) (by decide +kernel)
theorem jn_copy : Cond.native arraycopyName ∈ TS := TS_of (tin_3 _ (List.mem_of_getElem? (i := 172) (by decide +kernel))) (by decide +kernel)
theorem rR {d1 D0 dd : Nat} (hd : D0 ≤ dd) (h : d1 ≤ D0) : d1 + 1 ≤ (rmD (dd + 1)).frames ∧ 40 * (d1 + 1) ≤ (rmD (dd + 1)).locals := ⟨by show d1 + 1 ≤ dd + 1; omega, by show 40 * (d1 + 1) ≤ 40 * (dd + 1); omega⟩
section RB
variable {p : Program} {l : Launch} {e : Env} {R : Room} {s : State} {m : MethodId} {args : Array Value} {below : List Frame} {meth : Method} {c : Code} {cells slots : Nat} {Q : State → Prop} {D : va_G} {tc : Nat → ClassId} {ad : Nat → Nat} {nL : Nat} {own : String} {cc : ByteArray} {M : Nat → Nat → Int32} {pc : Nat} {L : List (Nat × Value)} {st : List Value}
theorem ra_iinc1 (E : Ev p s m args meth c D tc ad own cc nL) {i : Nat} {x : Int32} {L' : List (Nat × Value)} (d : decode cc pc = .ok (.iinc i 1, 3)) (q : Nat) (hq : L[q]? = some (i, .int x)) (hn : i < nL) (hl : (i, Value.int (x + 1)) :: L.filter (fun q => !(q.1 == i) && !(q.1 + 1 == i && q.2.category == 2)) = L') (kk : Wa p l e R s m args below meth c cells slots Q D tc ad nL M (pc + 3) L' st) : Wa p l e R s m args below meth c cells slots Q D tc ad nL M pc L st := ra_iinc E d q hq (by rw [ki_1]) hn hl kk
theorem ra_iincm (E : Ev p s m args meth c D tc ad own cc nL) {i : Nat} {x : Int32} {L' : List (Nat × Value)} (d : decode cc pc = .ok (.iinc i (-1), 3)) (q : Nat) (hq : L[q]? = some (i, .int x)) (hn : i < nL) (hl : (i, Value.int (x + (-1))) :: L.filter (fun q => !(q.1 == i) && !(q.1 + 1 == i && q.2.category == 2)) = L') (kk : Wa p l e R s m args below meth c cells slots Q D tc ad nL M (pc + 3) L' st) : Wa p l e R s m args below meth c cells slots Q D tc ad nL M pc L st := ra_iinc E d q hq (by rw [ki_m1]) hn hl kk
theorem ra_irem (E : Ev p s m args meth c D tc ad own cc nL) {x y : Int32} (d : decode cc pc = .ok (.irem, 1)) (hy : ¬ y = 0) (kk : Wa p l e R s m args below meth c cells slots Q D tc ad nL M (pc + 1) L (.int (x - x / y * y) :: st)) : Wa p l e R s m args below meth c cells slots Q D tc ad nL M pc L (.int y :: .int x :: st) := fun H locs ls hP hS h => lv_irem E.1 E.2.1 d hy (kk H locs ls hP hS h)
theorem ra_ishl (E : Ev p s m args meth c D tc ad own cc nL) {x y : Int32} (d : decode cc pc = .ok (.ishl, 1)) (kk : Wa p l e R s m args below meth c cells slots Q D tc ad nL M (pc + 1) L (.int (x <<< (y &&& 31)) :: st)) : Wa p l e R s m args below meth c cells slots Q D tc ad nL M pc L (.int y :: .int x :: st) := fun H locs ls hP hS h => lv_ishl E.1 E.2.1 d (kk H locs ls hP hS h)
theorem ra_ishr (E : Ev p s m args meth c D tc ad own cc nL) {x y : Int32} (d : decode cc pc = .ok (.ishr, 1)) (kk : Wa p l e R s m args below meth c cells slots Q D tc ad nL M (pc + 1) L (.int (x >>> (y &&& 31)) :: st)) : Wa p l e R s m args below meth c cells slots Q D tc ad nL M pc L (.int y :: .int x :: st) := fun H locs ls hP hS h => lv_ishr E.1 E.2.1 d (kk H locs ls hP hS h)
theorem ra_ldciw (E : Ev p s m args meth c D tc ad own cc nL) {idx : Nat} {v : Int32} (hc : Cond.constant own idx v ∈ TS) (d : decode cc pc = .ok (.ldc_w idx, 3)) (kk : Wa p l e R s m args below meth c cells slots Q D tc ad nL M (pc + 3) L (.int v :: st)) : Wa p l e R s m args below meth c cells slots Q D tc ad nL M pc L st := fun H locs ls hP hS h => lv_ldcw E.1 E.2.1 E.2.2.2.1 (E.2.2.2.2.1 _ hc) d (kk H locs ls hP hS h)
theorem ra_lookup (E : Ev p s m args meth c D tc ad own cc nL) {dflt : Int} {ps : Array (Int × Int)} {len : Nat} {x : Int32} {off : Int} {tgt : Nat} (d : decode cc pc = .ok (.lookupswitch dflt ps, len)) (hp : (ps.toList.zip (ps.toList.drop 1)).all (fun (a, next) => a.1 < next.1) = true) (ho : Op.lookupswitch.offset ps.toList dflt x.toInt = off) (ht : (pc : Int) + off = (tgt : Int)) (kk : Wa p l e R s m args below meth c cells slots Q D tc ad nL M tgt L st) : Wa p l e R s m args below meth c cells slots Q D tc ad nL M pc L (.int x :: st) := fun H locs ls hP hS h => lv_lookup E.1 E.2.1 d hp ho ht (kk H locs ls hP hS h)
theorem ra_tableIn (E : Ev p s m args meth c D tc ad own cc nL) {dflt lo hi : Int} {offs : Array Int} {len : Nat} {x : Int32} {off : Int} {tgt : Nat} (d : decode cc pc = .ok (.tableswitch dflt lo hi offs, len)) (h1 : ¬ x.toInt < lo) (h2 : ¬ hi < x.toInt) (ho : offs[(x.toInt - lo).toNat]? = some off) (ht : (pc : Int) + off = (tgt : Int)) (kk : Wa p l e R s m args below meth c cells slots Q D tc ad nL M tgt L st) : Wa p l e R s m args below meth c cells slots Q D tc ad nL M pc L (.int x :: st) := fun H locs ls hP hS h => lv_tableIn E.1 E.2.1 d h1 h2 ho ht (kk H locs ls hP hS h)
theorem ra_tableOut (E : Ev p s m args meth c D tc ad own cc nL) {dflt lo hi : Int} {offs : Array Int} {len : Nat} {x : Int32} {tgt : Nat} (d : decode cc pc = .ok (.tableswitch dflt lo hi offs, len)) (h1 : x.toInt < lo ∨ hi < x.toInt) (ht : (pc : Int) + dflt = (tgt : Int)) (kk : Wa p l e R s m args below meth c cells slots Q D tc ad nL M tgt L st) : Wa p l e R s m args below meth c cells slots Q D tc ad nL M pc L (.int x :: st) := fun H locs ls hP hS h => lv_tableOut E.1 E.2.1 d h1 ht (kk H locs ls hP hS h)
theorem ra_mmax (E : Ev p s m args meth c D tc ad own cc nL) {idx : Nat} {x y : Int32} (hl : Cond.methodLink own idx Lib.Math.max.name ∈ TS) (hR : 1 ≤ R.frames ∧ 40 ≤ R.locals) (hcs : cells ≤ R.cells ∧ slots ≤ R.slots) (d : decode cc pc = .ok (.invokestatic idx, 3)) (kk : Wa p l e R s m args below meth c cells slots Q D tc ad nL M (pc + 3) L (.int (if x < y then y else x) :: st)) (hcat : (st.map fun v => v.category).sum ≤ 8 := by exact Nat.le_of_ble_eq_true rfl) : Wa p l e R s m args below meth c cells slots Q D tc ad nL M pc L (.int y :: .int x :: st) := fun H locs ls hP hS h => va_mmax E.1 E.2.1 (E.2.2.1.trans h.1.symm) E.2.2.2.1 (E.2.2.2.2.1 _ hl) (E.2.2.2.2.1 _ jt_max) (E.2.2.2.2.1 _ ji_math) (E.2.2.2.2.1 _ jc_max) hR.1 (by have := hR.2; omega) hcs.1 hcs.2 d (kk H locs ls hP hS h)
theorem ra_mmin (E : Ev p s m args meth c D tc ad own cc nL) {idx : Nat} {x y : Int32} (hl : Cond.methodLink own idx Lib.Math.min.name ∈ TS) (hR : 1 ≤ R.frames ∧ 40 ≤ R.locals) (hcs : cells ≤ R.cells ∧ slots ≤ R.slots) (d : decode cc pc = .ok (.invokestatic idx, 3)) (kk : Wa p l e R s m args below meth c cells slots Q D tc ad nL M (pc + 3) L (.int (if y < x then y else x) :: st)) (hcat : (st.map fun v => v.category).sum ≤ 8 := by exact Nat.le_of_ble_eq_true rfl) : Wa p l e R s m args below meth c cells slots Q D tc ad nL M pc L (.int y :: .int x :: st) := fun H locs ls hP hS h => va_mmin E.1 E.2.1 (E.2.2.1.trans h.1.symm) E.2.2.2.1 (E.2.2.2.2.1 _ hl) (E.2.2.2.2.1 _ jt_min) (E.2.2.2.2.1 _ ji_math) (E.2.2.2.2.1 _ jc_min) hR.1 (by have := hR.2; omega) hcs.1 hcs.2 d (kk H locs ls hP hS h)
theorem ra_mabs (E : Ev p s m args meth c D tc ad own cc nL) {idx : Nat} {x : Int32} (hl : Cond.methodLink own idx Lib.Math.abs.name ∈ TS) (hR : 1 ≤ R.frames ∧ 40 ≤ R.locals) (hcs : cells ≤ R.cells ∧ slots ≤ R.slots) (d : decode cc pc = .ok (.invokestatic idx, 3)) (kk : Wa p l e R s m args below meth c cells slots Q D tc ad nL M (pc + 3) L (.int (if 0 ≤ x then x else 0 - x) :: st)) (hcat : (st.map fun v => v.category).sum ≤ 8 := by exact Nat.le_of_ble_eq_true rfl) : Wa p l e R s m args below meth c cells slots Q D tc ad nL M pc L (.int x :: st) := fun H locs ls hP hS h => va_mabs E.1 E.2.1 (E.2.2.1.trans h.1.symm) E.2.2.2.1 (E.2.2.2.2.1 _ hl) (E.2.2.2.2.1 _ jt_abs) (E.2.2.2.2.1 _ ji_math) (E.2.2.2.2.1 _ jc_abs) hR.1 (by have := hR.2; omega) hcs.1 hcs.2 d (kk H locs ls hP hS h)
theorem ra_copyi (E : Ev p s m args meth c D tc ad own cc nL) {idx k0 k1 n0 n1 : Nat} {sp dp n : Int32} (hk0 : k0 < Lim own) (hc0 : ∀ R, cel tc ad k0 R = ari (tc 1) n0 R) (hk1 : k1 < Lim own) (hc1 : ∀ R, cel tc ad k1 R = ari (tc 1) n1 R) (g : ¬ sp < 0 ∧ ¬ dp < 0 ∧ ¬ n < 0 ∧ sp.toNatClampNeg + n.toNatClampNeg ≤ n0 ∧ dp.toNatClampNeg + n.toNatClampNeg ≤ n1) (hl : Cond.methodLink own idx arraycopyName ∈ TS) (hR : 1 ≤ R.frames ∧ 40 ≤ R.locals) (d : decode cc pc = .ok (.invokestatic idx, 3)) (kk : Wa p l e R s m args below meth c cells slots Q D tc ad nL (uR M k1 (va_cpy (M k0) (M k1) sp.toNatClampNeg dp.toNatClampNeg n.toNatClampNeg)) (pc + 3) L st) (hcat : (st.map fun v => v.category).sum ≤ 8 := by exact Nat.le_of_ble_eq_true rfl) : Wa p l e R s m args below meth c cells slots Q D tc ad nL M pc L (.int n :: .int dp :: .ref (ad k1) :: .int sp :: .ref (ad k0) :: st) := fun H locs ls hP hS h => va_copyi E.1 E.2.1 (E.2.2.1.trans h.1.symm) E.2.2.2.1 (E.2.2.2.2.1 _ hl) (E.2.2.2.2.1 _ jn_copy) (E.2.2.2.2.1 _ jt_copy) (E.2.2.2.2.1 _ ji_sys) E.2.2.2.2.2.1 hP (Wd_D M _ E.2.2.2.2.2.2.1) hS k0 k1 1 1 (wd_of (lwE E hk0) (hc0 _)) (wd_of (lwE E hk1) (hc1 _)) rfl rfl rfl g.1 g.2.1 g.2.2.1 g.2.2.2.1 g.2.2.2.2 (fun _ _ => rfl) hR.1 (by have := hR.2; have q : nativeFrameWords "java/lang/System" "arraycopy" 5 ≤ 20 := (by decide +kernel); omega) d (fun H1 locs1 hP1 _ hS1 => kk H1 locs1 ls (by have q := Wd_set tc ad M (lwE E hk1) (va_cpy (M k0) (M k1) sp.toNatClampNeg dp.toNatClampNeg n.toNatClampNeg); rw [hc1] at q; rw [← q]; exact hP1) hS1 h)
end RB
