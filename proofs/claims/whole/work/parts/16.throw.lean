section
variable {p : Program} {l : Launch} {e : Env} {R : Room} {s : State} {m : MethodId} {args : Array Value} {below : List Frame} {meth : Method} {c : Code} {H : Heap} {locs : List Loc} {cells slots : Nat} {Q : State → Prop}
variable {mc ms : Nat} {free : Addr → Prop} {A0 A1 : Nat → Prop} {H0 : Heap} {a : Array Value} {pc : Nat} {ls : Array Slot} {st0 rest : List Value}
theorem vx_callq {S SX : Type} {post : Option Nat → S → Prop} {px : SX → Prop} {B : S → State → Prop} {BX : String → SX → State → Prop} {AX : Nat → Prop} (hr : vx_Run p l e R s m args below meth c H locs cells slots mc ms (F0 m pc ls st0) rest (va_Qq post B A1 a) (vx_X px BX AX) free) (hS : va_S A0 H0 H locs) (hA : ∀ q, q < H.size → A1 q → A0 q) (hf : ∀ q, free q → A0 q) (hAX : ∀ q, q < H.size → AX q → A0 q)
    (kx : ∀ (E : String) (ce : Cell) (q9 : Addr) (u : SX) (t : State) (H1 : Heap) (locs1 : List Loc), t.heap = H1 → s.vm.Alike t.vm → px u → BX E u t → H.size ≤ H1.size → (∀ q : Nat, q < H.size → ¬ AX q → H1[q]? = H[q]?) → va_S A0 H0 H1 locs1 → H1[q9]? = some ce → ce.vm = .none → s.vm.findClass E = some ce.cls → vx_W p l e R s m args below meth c H1 locs1 (cells + mc) (slots + ms) Q (F0 m pc ls rest) q9)
    (kk : ∀ (r : Option Nat) (u : S) (t : State) (H1 : Heap) (locs1 : List Loc), t.heap = H1 → s.vm.Alike t.vm → post r u → B u t → H.size ≤ H1.size → (∀ q : Nat, q < H.size → ¬ A1 q → H1[q]? = H[q]?) → va_S A0 H0 H1 locs1 → W p l e R s m args below meth c H1 locs1 (cells + mc) (slots + ms) Q (F0 m (pc + 3) ls (va_rf r :: rest))) : W p l e R s m args below meth c H locs cells slots Q (F0 m pc ls st0) := by
  intro T hT X
  rcases hr T hT X with ⟨v, st₀, t, T', L, h0, X', hL, e1, e2, ⟨⟨r, u, hv, hp, hb⟩, hF⟩, st⟩ | ⟨q, st₀, t, T', L, E, ce, h0, X', hL, e1, e2, ⟨u, hp, hb, hF⟩, hce, hcv, hcl, st⟩
  · cases hv
    obtain ⟨k1, k2, k3⟩ := vx_keep h0 e1 hS hA hf hL hF
    obtain ⟨t2, a1, b1⟩ := kk r u t T'.heap (locs ++ L) e1.symm (by rw [← e2]; exact X'.warmed.alike) hp hb k1 k2 k3 T' rfl X'
    exact ⟨t2, st t2 a1, b1⟩
  · obtain ⟨k1, k2, k3⟩ := vx_keep h0 e1 hS hAX hf hL hF
    obtain ⟨t2, a1, b1⟩ := kx E ce q u t T'.heap (locs ++ L) e1.symm (by rw [← e2]; exact X'.warmed.alike) hp hb k1 k2 k3 (by rw [e1]; exact hce) hcv hcl T' rfl X'
    exact ⟨t2, st.trans a1, b1⟩
end
def rmX (d mc : Nat) : Room := { frames := d, cells := mc, slots := 6 * mc, locals := 40 * d }
def XB (D : va_G) (tc : Nat → ClassId) (ad : Nat → Nat) : String → (String × (Nat → Nat → Int32)) → State → Prop := fun E u t => E = u.1 ∧ EndW D tc ad u.2 t
/-- where it throws: the exception's class, the world -/
def XC0 (X : String → (Nat → Nat → Int32) → Prop) (D : va_G) (tc : Nat → ClassId) (ad : Nat → Nat) (A : Nat → Prop) : String → State → State → Prop := vx_X (S := String × (Nat → Nat → Int32)) (fun u => X u.1 u.2) (XB D tc ad) A
def XI (y : MethodName) (bytes : ByteArray) (maxL : Nat) (ret : Option FieldType) (d mc : Nat) (ad : Nat → Nat) (av : List Value) (M : Nat → Nat → Int32) (K : Int32 → (Nat → Nat → Int32) → Prop) (X : String → (Nat → Nat → Int32) → Prop) : Prop :=
  Lim y.cls ≤ nW ad → ∀ (l : Launch), l.stackTraces = false → ∀ (D : va_G) (tc : Nat → ClassId) (sz : Nat), vx_Met l y (Cond.code y bytes maxL ret :: TS) (rmX d mc) (va_Pc av (fun U => U.heap.size = sz ∧ PreW D tc ad M U)) (va_Qi K (EndW D tc ad) (A0 ad sz)) (XC0 X D tc ad (A0 ad sz)) mc (6 * mc) (A0 ad sz)
theorem XI_of {y : MethodName} {bytes : ByteArray} {maxL d mc : Nat} {ret : Option FieldType} {ad : Nat → Nat} {av : List Value} {M : Nat → Nat → Int32} {K : Int32 → (Nat → Nat → Int32) → Prop} {X : String → (Nat → Nat → Int32) → Prop} (own : String) (hown : y.cls = own) (hy : plainName y.cls = true) (hlen : (lg_sl av).length ≤ maxL)
    (body : ∀ (p : Program) (l : Launch) (e : Env) (s : State) (m : MethodId) (below : List Frame) (meth : Method) (c : Code) (D : va_G) (tc : Nat → ClassId), Ev p s m av.toArray meth c D tc ad own bytes maxL → meth.sig.returnType = ret → l.stackTraces = false → (∀ x ∈ c.exceptionTable.toList, False) → Wa p l e (rmX d mc) s m av.toArray below meth c 0 0 (vx_MQ below (va_Qi K (EndW D tc ad) (A0 ad s.heap.size)) (XC0 X D tc ad (A0 ad s.heap.size)) av.toArray s mc (6 * mc) (A0 ad s.heap.size)) D tc ad maxL M 0 (lv_args 0 av) []) : XI y bytes maxL ret d mc ad av M K X := by
  intro hlim l hfl D tc sz
  refine vx_ofW (cc := bytes) (maxL := maxL) (ret := ret) hy rfl ?_
  intro p e s m args below meth c s₁ B hml hT hv
  obtain ⟨rfl, hsz, hP, hK, hI, hS⟩ := hv
  subst hsz
  have hts := atoms_spec (ws := Cond.code y bytes maxL ret :: TS) B.pre
  have hts : ∀ w ∈ TS, w.before av.toArray s = true := fun w h => hts w (List.mem_cons_of_mem _ h)
  have ho : s.vm.findClass own = some m.cls := by rw [← hown]; exact findClass_of_methodNamed B.named
  have hl := lv_entry av (n := maxL) hlen
  rw [lg_entry_eq]
  generalize (lg_sl av ++ List.replicate (maxL - (lg_sl av).length) Slot.unset).toArray = ls at hl ⊢
  exact body p l e s m below meth c D tc ⟨B.exec, B.bytes, hml, ho, hts, hK, hI, hS, B.notSynchronized, by rw [← hown]; exact hlim⟩ B.returns hfl hT s.heap [] ls hP va_S.rf hl
def XV (y : MethodName) (bytes : ByteArray) (maxL : Nat) (d mc : Nat) (ad : Nat → Nat) (av : List Value) (M : Nat → Nat → Int32) (K : (Nat → Nat → Int32) → Prop) (X : String → (Nat → Nat → Int32) → Prop) : Prop :=
  Lim y.cls ≤ nW ad → ∀ (l : Launch), l.stackTraces = false → ∀ (D : va_G) (tc : Nat → ClassId) (sz : Nat), vx_Met l y (Cond.code y bytes maxL none :: TS) (rmX d mc) (va_Pc av (fun U => U.heap.size = sz ∧ PreW D tc ad M U)) (va_Qv K (EndW D tc ad) (A0 ad sz)) (XC0 X D tc ad (A0 ad sz)) mc (6 * mc) (A0 ad sz)
theorem XV_of {y : MethodName} {bytes : ByteArray} {maxL d mc : Nat} {ad : Nat → Nat} {av : List Value} {M : Nat → Nat → Int32} {K : (Nat → Nat → Int32) → Prop} {X : String → (Nat → Nat → Int32) → Prop} (own : String) (hown : y.cls = own) (hy : plainName y.cls = true) (hlen : (lg_sl av).length ≤ maxL)
    (body : ∀ (p : Program) (l : Launch) (e : Env) (s : State) (m : MethodId) (below : List Frame) (meth : Method) (c : Code) (D : va_G) (tc : Nat → ClassId), Ev p s m av.toArray meth c D tc ad own bytes maxL → meth.sig.returnType = none → l.stackTraces = false → (∀ x ∈ c.exceptionTable.toList, False) → Wa p l e (rmX d mc) s m av.toArray below meth c 0 0 (vx_MQ below (va_Qv K (EndW D tc ad) (A0 ad s.heap.size)) (XC0 X D tc ad (A0 ad s.heap.size)) av.toArray s mc (6 * mc) (A0 ad s.heap.size)) D tc ad maxL M 0 (lv_args 0 av) []) : XV y bytes maxL d mc ad av M K X := by
  intro hlim l hfl D tc sz
  refine vx_ofW (cc := bytes) (maxL := maxL) (ret := none) hy rfl ?_
  intro p e s m args below meth c s₁ B hml hT hv
  obtain ⟨rfl, hsz, hP, hK, hI, hS⟩ := hv
  subst hsz
  have hts := atoms_spec (ws := Cond.code y bytes maxL none :: TS) B.pre
  have hts : ∀ w ∈ TS, w.before av.toArray s = true := fun w h => hts w (List.mem_cons_of_mem _ h)
  have ho : s.vm.findClass own = some m.cls := by rw [← hown]; exact findClass_of_methodNamed B.named
  have hl := lv_entry av (n := maxL) hlen
  rw [lg_entry_eq]
  generalize (lg_sl av ++ List.replicate (maxL - (lg_sl av).length) Slot.unset).toArray = ls at hl ⊢
  exact body p l e s m below meth c D tc ⟨B.exec, B.bytes, hml, ho, hts, hK, hI, hS, B.notSynchronized, by rw [← hown]; exact hlim⟩ B.returns hfl hT s.heap [] ls hP va_S.rf hl
def XA (y : MethodName) (bytes : ByteArray) (maxL : Nat) (ret : Option FieldType) (d mc : Nat) (ad : Nat → Nat) (av : List Value) (M : Nat → Nat → Int32) (K : Option Nat → (Nat → Nat → Int32) → Prop) (X : String → (Nat → Nat → Int32) → Prop) : Prop :=
  Lim y.cls ≤ nW ad → ∀ (l : Launch), l.stackTraces = false → ∀ (D : va_G) (tc : Nat → ClassId) (sz : Nat), vx_Met l y (Cond.code y bytes maxL ret :: TS) (rmX d mc) (va_Pc av (fun U => U.heap.size = sz ∧ PreW D tc ad M U)) (va_QA K D tc ad (A0 ad sz)) (XC0 X D tc ad (A0 ad sz)) mc (6 * mc) (A0 ad sz)
theorem XA_of {y : MethodName} {bytes : ByteArray} {maxL d mc : Nat} {ret : Option FieldType} {ad : Nat → Nat} {av : List Value} {M : Nat → Nat → Int32} {K : Option Nat → (Nat → Nat → Int32) → Prop} {X : String → (Nat → Nat → Int32) → Prop} (own : String) (hown : y.cls = own) (hy : plainName y.cls = true) (hlen : (lg_sl av).length ≤ maxL)
    (body : ∀ (p : Program) (l : Launch) (e : Env) (s : State) (m : MethodId) (below : List Frame) (meth : Method) (c : Code) (D : va_G) (tc : Nat → ClassId), Ev p s m av.toArray meth c D tc ad own bytes maxL → meth.sig.returnType = ret → l.stackTraces = false → (∀ x ∈ c.exceptionTable.toList, False) → Wa p l e (rmX d mc) s m av.toArray below meth c 0 0 (vx_MQ below (va_QA K D tc ad (A0 ad s.heap.size)) (XC0 X D tc ad (A0 ad s.heap.size)) av.toArray s mc (6 * mc) (A0 ad s.heap.size)) D tc ad maxL M 0 (lv_args 0 av) []) : XA y bytes maxL ret d mc ad av M K X := by
  intro hlim l hfl D tc sz
  refine vx_ofW (cc := bytes) (maxL := maxL) (ret := ret) hy rfl ?_
  intro p e s m args below meth c s₁ B hml hT hv
  obtain ⟨rfl, hsz, hP, hK, hI, hS⟩ := hv
  subst hsz
  have hts := atoms_spec (ws := Cond.code y bytes maxL ret :: TS) B.pre
  have hts : ∀ w ∈ TS, w.before av.toArray s = true := fun w h => hts w (List.mem_cons_of_mem _ h)
  have ho : s.vm.findClass own = some m.cls := by rw [← hown]; exact findClass_of_methodNamed B.named
  have hl := lv_entry av (n := maxL) hlen
  rw [lg_entry_eq]
  generalize (lg_sl av ++ List.replicate (maxL - (lg_sl av).length) Slot.unset).toArray = ls at hl ⊢
  exact body p l e s m below meth c D tc ⟨B.exec, B.bytes, hml, ho, hts, hK, hI, hS, B.notSynchronized, by rw [← hown]; exact hlim⟩ B.returns hfl hT s.heap [] ls hP va_S.rf hl
def tch : Nat → List Cond
  | 1 => tables_1_1
  | 2 => tables_1_2
  | 3 => tables_1_3
  | 4 => tables_1_4
  | 5 => tables_1_5
  | 6 => tables_1_6
  | 7 => tables_1_7
  | 8 => tables_1_8
  | 9 => tables_1_9
  | 10 => tables_1_10
  | _ => []
theorem tch_in : ∀ (k : Nat), ∀ w ∈ tch k, w ∈ lw_tbl
  | 1 => tin_1
  | 2 => tin_2
  | 3 => tin_3
  | 4 => tin_4
  | 5 => tin_5
  | 6 => tin_6
  | 7 => tin_7
  | 8 => tin_8
  | 9 => tin_9
  | 10 => tin_10
  | 0 => fun _ h => absurd h List.not_mem_nil
  | _ + 11 => fun _ h => absurd h List.not_mem_nil
theorem of_ps {L : List Cond} (ps : List (Nat × Nat)) (h : L.filter goodWord = ps.filterMap (fun q => (tch q.1)[q.2]?)) : ∀ w ∈ L.filter goodWord, w ∈ TS := by
  intro w hw
  have hg := (List.mem_filter.mp hw).2
  rw [h] at hw
  obtain ⟨q, -, hq⟩ := List.mem_filterMap.mp hw
  exact TS_of (tch_in q.1 w (List.mem_of_getElem? hq)) hg
def nmX : List String := ["java/lang/RuntimeException", "java/lang/Exception"]
def badW (cls : String) : List Cond := [Cond.castable cls cls, Cond.declares ⟨"java/lang/RuntimeException", "<init>", "(Ljava/lang/String;)V"⟩, Cond.declares ⟨"java/lang/Exception", "<init>", "(Ljava/lang/String;)V"⟩, Cond.declares ⟨"java/lang/Throwable", "<init>", "(Ljava/lang/String;)V"⟩]
set_option maxRecDepth 100000 in
theorem tw_A : ∀ w ∈ (vx_atS RX12 401 "java/lang/IllegalArgumentException" nmX).filter goodWord, w ∈ TS := of_ps [(1, 20), (3, 227), (3, 236), (4, 0), (4, 3), (4, 5), (3, 228), (3, 229), (1, 34), (1, 35), (3, 230), (3, 235), (4, 1), (4, 21), (3, 217), (4, 22), (3, 219), (4, 23), (3, 221), (3, 231), (3, 233), (3, 223), (4, 17), (4, 18), (4, 20), (3, 223), (4, 8), (4, 9), (4, 10), (4, 11), (4, 11), (4, 12), (4, 13), (4, 14), (4, 14), (4, 15), (4, 16), (4, 17), (4, 7), (3, 206), (3, 214), (3, 215), (3, 216), (3, 218), (3, 220), (3, 222), (3, 226), (3, 225), (3, 224)] (by decide +kernel)
set_option maxRecDepth 100000 in
theorem tv_A : ∀ w ∈ (vx_atS RX12 401 "java/lang/IllegalArgumentException" nmX).filter (fun w => !goodWord w), w ∈ badW "java/lang/IllegalArgumentException" := by decide +kernel
set_option maxRecDepth 100000 in
theorem tg_A : ∀ w ∈ Cond.classLink RX12 397 "java/lang/IllegalArgumentException" :: Cond.initialized "java/lang/IllegalArgumentException" :: vx_atS RX12 401 "java/lang/IllegalArgumentException" nmX, vx_ot w = true := by decide +kernel
theorem tk_A : Cond.classLink RX12 397 "java/lang/IllegalArgumentException" ∈ TS := TS_of (tin_3 _ (List.mem_of_getElem? (i := 205) (by decide +kernel))) (by decide +kernel)
theorem ti_A : Cond.initialized "java/lang/IllegalArgumentException" ∈ TS := TS_of (tin_1 _ (List.mem_of_getElem? (i := 23) (by decide +kernel))) (by decide +kernel)
set_option maxRecDepth 100000 in
theorem tw_B : ∀ w ∈ (vx_atS RX12 357 "java/lang/IndexOutOfBoundsException" nmX).filter goodWord, w ∈ TS := of_ps [(1, 20), (3, 227), (3, 236), (4, 0), (4, 3), (4, 5), (3, 228), (3, 229), (1, 34), (1, 35), (3, 230), (3, 235), (4, 1), (4, 21), (3, 217), (4, 22), (3, 219), (4, 23), (3, 221), (3, 231), (3, 233), (3, 223), (4, 17), (4, 18), (4, 20), (3, 223), (4, 64), (4, 65), (4, 66), (4, 11), (4, 11), (4, 12), (4, 13), (4, 14), (4, 14), (4, 15), (4, 16), (4, 17), (4, 63), (4, 54), (4, 56), (3, 239), (4, 57), (4, 58), (4, 59), (4, 60), (3, 226), (3, 225), (4, 61)] (by decide +kernel)
set_option maxRecDepth 100000 in
theorem tv_B : ∀ w ∈ (vx_atS RX12 357 "java/lang/IndexOutOfBoundsException" nmX).filter (fun w => !goodWord w), w ∈ badW "java/lang/IndexOutOfBoundsException" := by decide +kernel
set_option maxRecDepth 100000 in
theorem tg_B : ∀ w ∈ Cond.classLink RX12 353 "java/lang/IndexOutOfBoundsException" :: Cond.initialized "java/lang/IndexOutOfBoundsException" :: vx_atS RX12 357 "java/lang/IndexOutOfBoundsException" nmX, vx_ot w = true := by decide +kernel
theorem tk_B : Cond.classLink RX12 353 "java/lang/IndexOutOfBoundsException" ∈ TS := TS_of (tin_4 _ (List.mem_of_getElem? (i := 53) (by decide +kernel))) (by decide +kernel)
theorem ti_B : Cond.initialized "java/lang/IndexOutOfBoundsException" ∈ TS := TS_of (tin_1 _ (List.mem_of_getElem? (i := 25) (by decide +kernel))) (by decide +kernel)
set_option maxRecDepth 100000 in
theorem tw_S : ∀ w ∈ (vx_atS RX12 408 "java/lang/IllegalStateException" nmX).filter goodWord, w ∈ TS := of_ps [(1, 20), (3, 227), (3, 236), (4, 0), (4, 3), (4, 5), (3, 228), (3, 229), (1, 34), (1, 35), (3, 230), (3, 235), (4, 1), (4, 21), (3, 217), (4, 22), (3, 219), (4, 23), (3, 221), (3, 231), (3, 233), (3, 223), (4, 17), (4, 18), (4, 20), (3, 223), (5, 236), (5, 237), (5, 238), (4, 11), (4, 11), (4, 12), (4, 13), (4, 14), (4, 14), (4, 15), (4, 16), (4, 17), (5, 235), (5, 226), (5, 228), (3, 238), (5, 229), (5, 230), (5, 231), (5, 232), (3, 226), (3, 225), (5, 233)] (by decide +kernel)
set_option maxRecDepth 100000 in
theorem tv_S : ∀ w ∈ (vx_atS RX12 408 "java/lang/IllegalStateException" nmX).filter (fun w => !goodWord w), w ∈ badW "java/lang/IllegalStateException" := by decide +kernel
set_option maxRecDepth 100000 in
theorem tg_S : ∀ w ∈ Cond.classLink RX12 404 "java/lang/IllegalStateException" :: Cond.initialized "java/lang/IllegalStateException" :: vx_atS RX12 408 "java/lang/IllegalStateException" nmX, vx_ot w = true := by decide +kernel
theorem tk_S : Cond.classLink RX12 404 "java/lang/IllegalStateException" ∈ TS := TS_of (tin_5 _ (List.mem_of_getElem? (i := 225) (by decide +kernel))) (by decide +kernel)
theorem ti_S : Cond.initialized "java/lang/IllegalStateException" ∈ TS := TS_of (tin_1 _ (List.mem_of_getElem? (i := 26) (by decide +kernel))) (by decide +kernel)
theorem nmX_fit : ∀ n ∈ nmX, Bundle.fit n = true := by decide +kernel
section RX
variable {p : Program} {l : Launch} {e : Env} {R : Room} {s : State} {m : MethodId} {args : Array Value} {below : List Frame} {meth : Method} {c : Code} {cells slots : Nat} {Q : State → Prop} {D : va_G} {tc : Nat → ClassId} {ad : Nat → Nat} {nL : Nat} {own : String} {cc : ByteArray} {M : Nat → Nat → Int32} {pc : Nat} {L : List (Nat × Value)} {st : List Value} {Qc : Array Value → State → Outcome → State → Prop} {mc ms : Nat} {X : String → (Nat → Nat → Int32) → Prop}
theorem va_P.grow {cl : List vw_C} {ws : va_W} {H H1 : Heap} (h : va_P D cl ws H) (hq : ∀ q : Nat, q < H.size → H1[q]? = H[q]?) : va_P D cl ws H1 := h.kept fun k q hk => hq _ (vx_lt h hk)
theorem ra_throw (E : Ev p s m args meth c D tc ad RX12 cc nL) (hfl : l.stackTraces = false) (hT : ∀ x ∈ c.exceptionTable.toList, False) {cls text : String} {ik is ic i : Nat} (hq : (RX12, is, i, text) ∈ srefs) (hw : ∀ w ∈ (vx_atS RX12 ic cls nmX).filter goodWord, w ∈ TS) (hb : ∀ w ∈ (vx_atS RX12 ic cls nmX).filter (fun w => !goodWord w), w ∈ badW cls) (hg : ∀ w ∈ Cond.classLink RX12 ik cls :: Cond.initialized cls :: vx_atS RX12 ic cls nmX, vx_ot w = true) (hcx : cls ∈ exns) (hfit : Bundle.fit cls = true) (hk : Cond.classLink RX12 ik cls ∈ TS) (hi : Cond.initialized cls ∈ TS)
    (d0 : decode cc pc = .ok (.new ik, 3)) (d3 : decode cc (pc + 3) = .ok (.dup, 1)) (d4 : decode cc (pc + 4) = .ok (.ldc_w is, 3)) (d7 : decode cc (pc + 7) = .ok (.invokespecial ic, 3)) (d10 : decode cc (pc + 10) = .ok (.athrow, 1)) (hR : 5 < R.frames ∧ 100 ≤ R.locals) (hcs : cells + 1 ≤ R.cells ∧ slots + 6 ≤ R.slots) (hmc : cells + 1 ≤ mc ∧ slots + 6 ≤ ms) (hx : X cls M) (hcat : (st.map fun v => v.category).sum ≤ 8 := by exact Nat.le_of_ble_eq_true rfl) :
    Wa p l e R s m args below meth c cells slots (vx_MQ below Qc (XC0 X D tc ad (A0 ad s.heap.size)) args s mc ms (A0 ad s.heap.size)) D tc ad nL M pc L st := fun H locs ls hP hS h =>
  vx_throwSW (names := nmX) E.1 E.2.1 hfl E.2.2.2.1 hfit nmX_fit (E.2.2.2.2.1 _ hk) (E.2.2.2.2.1 _ hi) (E.2.2.2.2.2.2.2.1.2.2.1 _ hq) (vx_hat (fun w hw' => E.2.2.2.2.1 _ (hw w hw')) hb (vx_c ((E.2.2.2.2.2.2.2.1.2.2.2.2.2.1 _ hcx).use rfl) (vx_c ((E.2.2.2.2.2.2.2.1.2.2.2.2.2.2.1 _ (by decide +kernel : "java/lang/RuntimeException" ∈ thrN)).use rfl) (vx_c ((E.2.2.2.2.2.2.2.1.2.2.2.2.2.2.1 _ (by decide +kernel : "java/lang/Exception" ∈ thrN)).use rfl) (vx_c ((E.2.2.2.2.2.2.2.1.2.2.2.2.2.2.1 _ (by decide +kernel : "java/lang/Throwable" ∈ thrN)).use rfl) vx_n))))) hg E.2.2.2.2.2.2.2.1.2.1.2.2.2.2.2.2.2.2.1 E.2.2.2.2.2.2.2.1.2.1.2.2.2.2.2.2.2.2.2 hS (h.1.trans E.2.2.1.symm) d0 d3 d4 d7 d10 (fun x hx => (hT x hx).elim) hR.1 (by have := hR.2; show (st.map fun v => v.category).sum + (13 * (2 + 1) + 43) ≤ R.locals; omega) hcs.1 hcs.2 E.2.2.2.2.2.2.2.2.1
    (fun t hA hz hkp => ⟨(cls, M), hx, ⟨rfl, hP.grow hkp⟩, Nat.le_trans hS.1 hz, fun q h1 h2 => (hkp q (Nat.lt_of_lt_of_le h1 hS.1)).trans (hS.2.1 q h1 h2)⟩) hS.2.2 hmc.1 hmc.2
theorem rx_iret (E : Ev p s m args meth c D tc ad own cc nL) {K : Int32 → (Nat → Nat → Int32) → Prop} {v : Int32} (hr : meth.sig.returnType = some .int) (d : decode cc pc = .ok (.ireturn, 1)) (hmc : cells ≤ mc ∧ slots ≤ ms) (k : K v M) : Wa p l e R s m args below meth c cells slots (vx_MQ below (va_Qi K (EndW D tc ad) (A0 ad s.heap.size)) (XC0 X D tc ad (A0 ad s.heap.size)) args s mc ms (A0 ad s.heap.size)) D tc ad nL M pc L [.int v] := fun H locs ls hP hS h => vx_ret (W.widen hmc.1 hmc.2 (W.iret (v := v) E.1 E.2.1 hr (fun t ht _ => ⟨⟨v, M, rfl, k, by show va_P D vwCl (Wd tc ad M) t.heap; rw [ht]; exact hP⟩, hS.F ht⟩) hS.2.2 d E.2.2.2.2.2.2.2.2.1))
theorem rx_zret (E : Ev p s m args meth c D tc ad own cc nL) {K : Int32 → (Nat → Nat → Int32) → Prop} {ty : FieldType} {v : Int32} (hr : meth.sig.returnType = some ty) (hn : narrow ty (.int v) = .int v) (d : decode cc pc = .ok (.ireturn, 1)) (hmc : cells ≤ mc ∧ slots ≤ ms) (k : K v M) : Wa p l e R s m args below meth c cells slots (vx_MQ below (va_Qi K (EndW D tc ad) (A0 ad s.heap.size)) (XC0 X D tc ad (A0 ad s.heap.size)) args s mc ms (A0 ad s.heap.size)) D tc ad nL M pc L [.int v] := fun H locs ls hP hS h => vx_ret (W.widen hmc.1 hmc.2 (W.zret (v := v) E.1 E.2.1 hr hn (fun t ht _ => ⟨⟨v, M, rfl, k, by show va_P D vwCl (Wd tc ad M) t.heap; rw [ht]; exact hP⟩, hS.F ht⟩) hS.2.2 d E.2.2.2.2.2.2.2.2.1))
theorem rx_vret (E : Ev p s m args meth c D tc ad own cc nL) {K : (Nat → Nat → Int32) → Prop} (hr : meth.sig.returnType = none) (d : decode cc pc = .ok (.return_, 1)) (hmc : cells ≤ mc ∧ slots ≤ ms) (k : K M) : Wa p l e R s m args below meth c cells slots (vx_MQ below (va_Qv K (EndW D tc ad) (A0 ad s.heap.size)) (XC0 X D tc ad (A0 ad s.heap.size)) args s mc ms (A0 ad s.heap.size)) D tc ad nL M pc L [] := fun H locs ls hP hS h => vx_ret (W.widen hmc.1 hmc.2 (W.vret E.1 E.2.1 hr (fun t ht _ => ⟨⟨M, rfl, k, by show va_P D vwCl (Wd tc ad M) t.heap; rw [ht]; exact hP⟩, hS.F ht⟩) hS.2.2 d E.2.2.2.2.2.2.2.2.1))
theorem rx_aret (E : Ev p s m args meth c D tc ad own cc nL) {K : Option Nat → (Nat → Nat → Int32) → Prop} {n : String} {o : Option Nat} (hr : meth.sig.returnType = some (.object n)) (d : decode cc pc = .ok (.areturn, 1)) (hmc : cells ≤ mc ∧ slots ≤ ms) (k : K o M) : Wa p l e R s m args below meth c cells slots (vx_MQ below (va_QA K D tc ad (A0 ad s.heap.size)) (XC0 X D tc ad (A0 ad s.heap.size)) args s mc ms (A0 ad s.heap.size)) D tc ad nL M pc L [va_rf (o.map ad)] := fun H locs ls hP hS h => vx_ret (W.widen hmc.1 hmc.2 (W.aret (v := va_rf (o.map ad)) E.1 E.2.1 hr (Or.inl ⟨n, rfl⟩) (va_rf_or _) (fun t ht _ => ⟨⟨_, (o, M), rfl, ⟨rfl, k⟩, by show va_P D vwCl (Wd tc ad M) t.heap; rw [ht]; exact hP⟩, hS.F ht⟩) hS.2.2 d E.2.2.2.2.2.2.2.2.1))
theorem rx_callIVP (E : Ev p s m args meth c D tc ad own cc nL) (hfl : l.stackTraces = false) {C : String} {T : u_T} {N b ci : Nat} {y : MethodName} {bytes : ByteArray} {maxL n idx d0 k1 : Nat} {ret : Option FieldType} {As rest stk : List Value} {K : Int32 → (Nat → Nat → Int32) → Prop} {X1 : String → (Nat → Nat → Int32) → Prop} (hM : XI y bytes maxL ret d0 k1 ad (.ref (ad b) :: As) M K X1) (hq : Lim y.cls ≤ Lim own) (cv : CV C y bytes maxL ret n) (hl : Cond.methodLink own idx y ∈ TS) (hmx : maxL ≤ 21) (hb : b < Lim own) (hcel : ∀ R, ∃ fs, cel tc ad b R = .inr (ci, fs)) (hcl : vwCl[ci]? = some (C, T, N)) (hn : As.length = n) (hst : stk = As.reverse ++ .ref (ad b) :: rest) (hcat : (rest.map fun v => v.category).sum ≤ 8) (hR : d0 + 1 ≤ R.frames ∧ 40 * (d0 + 1) ≤ R.locals) (hcs : cells + k1 ≤ R.cells ∧ slots + 6 * k1 ≤ R.slots) (d : decode cc pc = .ok (.invokevirtual idx, 3)) (hT : ∀ x ∈ c.exceptionTable.toList, False) (hmc : cells + k1 ≤ mc ∧ slots + 6 * k1 ≤ ms) (hx : ∀ E' M', X1 E' M' → X E' M') (kk : ∀ (r : Int32) (M' : (Nat → Nat → Int32)), K r M' → Wa p l e R s m args below meth c (cells + k1) (slots + 6 * k1) (vx_MQ below Qc (XC0 X D tc ad (A0 ad s.heap.size)) args s mc ms (A0 ad s.heap.size)) D tc ad nL M' (pc + 3) L (.int r :: rest)) : Wa p l e R s m args below meth c cells slots (vx_MQ below Qc (XC0 X D tc ad (A0 ad s.heap.size)) args s mc ms (A0 ad s.heap.size)) D tc ad nL M pc L stk := by
  intro H locs ls hP hS h
  subst hst
  obtain ⟨fs, hcel⟩ := hcel (M b)
  have hlks := GT_V (own := own) cv hl
  obtain ⟨-, -, -, -, c1, c2, c3, c4⟩ := cv
  refine vx_calli (vx_runV (As := As) (rest := rest) (C := C) ⟨E.1, E.2.1, E.2.2.1, E.2.2.2.1, E.2.2.2.2.1⟩ (hM (Nat.le_trans hq E.2.2.2.2.2.2.2.2.2) l hfl D tc H.size) (cwV n E.2.2.2.2.1 hlks rfl rfl rfl ⟨c1, c2, c3, c4⟩ ⟨hR.1, by show 8 + (maxL + 11) + 40 * d0 ≤ R.locals; omega⟩) ⟨pre_blind, va_recv E.2.2.2.2.2.1 hP hcl (wd_of (lwE E hb) hcel), fun U hU hW => ⟨rfl, pre_at E hP hS hU hW⟩⟩ rfl hn h.1 rfl (lv_room hcat) d hcs) hS (fun q _ hq => A0_mono hS.1 q hq) (fun q hq => A0_mono hS.1 q hq) (fun q _ hq => A0_mono hS.1 q hq) (fun E1 ce q9 u t H1 locs1 ht hvm hw hB hz1 hk1 hS1 hce hcv hcl => ?_) (fun r u t H1 locs1 ht hvm hw hB hz1 hk1 hS1 => ?_)
  · obtain ⟨E2, M2⟩ := u
    obtain ⟨rfl, hB⟩ := hB
    have hP2 : va_P D vwCl (Wd tc ad M2) H1 := by rw [← ht]; exact hB
    exact vx_out (fun x hx => (hT x hx).elim) E.2.2.2.2.2.2.2.2.1 hce hcv hcl (fun t1 h1 h2 => ⟨(E1, M2), hx _ _ hw, ⟨rfl, by show va_P D vwCl (Wd tc ad M2) t1.heap; rw [h1]; exact hP2⟩, hS1.F h1⟩) hS1.2.2 hmc.1 hmc.2
  · exact kk r u hw H1 locs1 ls (by rw [← ht]; exact hB) hS1 h
theorem rx_callISP (E : Ev p s m args meth c D tc ad own cc nL) (hfl : l.stackTraces = false)  {y : MethodName} {bytes : ByteArray} {maxL n idx d0 k1 : Nat} {ret : Option FieldType} {As rest stk : List Value} {K : Int32 → (Nat → Nat → Int32) → Prop} {X1 : String → (Nat → Nat → Int32) → Prop} (hM : XI y bytes maxL ret d0 k1 ad As M K X1) (hq : Lim y.cls ≤ Lim own) (cv : CT y bytes maxL ret n) (hl : Cond.methodLink own idx y ∈ TS) (hmx : maxL ≤ 21)  (hn : As.length = n) (hst : stk = As.reverse ++ rest) (hcat : (rest.map fun v => v.category).sum ≤ 8) (hR : d0 + 1 ≤ R.frames ∧ 40 * (d0 + 1) ≤ R.locals) (hcs : cells + k1 ≤ R.cells ∧ slots + 6 * k1 ≤ R.slots) (d : decode cc pc = .ok (.invokestatic idx, 3)) (hT : ∀ x ∈ c.exceptionTable.toList, False) (hmc : cells + k1 ≤ mc ∧ slots + 6 * k1 ≤ ms) (hx : ∀ E' M', X1 E' M' → X E' M') (kk : ∀ (r : Int32) (M' : (Nat → Nat → Int32)), K r M' → Wa p l e R s m args below meth c (cells + k1) (slots + 6 * k1) (vx_MQ below Qc (XC0 X D tc ad (A0 ad s.heap.size)) args s mc ms (A0 ad s.heap.size)) D tc ad nL M' (pc + 3) L (.int r :: rest)) : Wa p l e R s m args below meth c cells slots (vx_MQ below Qc (XC0 X D tc ad (A0 ad s.heap.size)) args s mc ms (A0 ad s.heap.size)) D tc ad nL M pc L stk := by
  intro H locs ls hP hS h
  subst hst
  have hlks := GT_S (own := own) cv hl
  obtain ⟨-, -, -, c2, c3, c4⟩ := cv
  refine vx_calli (vx_runS (As := As) (rest := rest) ⟨E.1, E.2.1, E.2.2.1, E.2.2.2.1, E.2.2.2.2.1⟩ (hM (Nat.le_trans hq E.2.2.2.2.2.2.2.2.2) l hfl D tc H.size) (va_cwS n E.2.2.2.2.1 hlks rfl rfl rfl ⟨c2, c3, c4⟩ ⟨hR.1, by show 8 + (maxL + 11) + 40 * d0 ≤ R.locals; omega⟩) ⟨pre_blind, fun U hU hW => ⟨rfl, pre_at E hP hS hU hW⟩⟩ rfl hn h.1 rfl (lv_room hcat) d hcs) hS (fun q _ hq => A0_mono hS.1 q hq) (fun q hq => A0_mono hS.1 q hq) (fun q _ hq => A0_mono hS.1 q hq) (fun E1 ce q9 u t H1 locs1 ht hvm hw hB hz1 hk1 hS1 hce hcv hcl => ?_) (fun r u t H1 locs1 ht hvm hw hB hz1 hk1 hS1 => ?_)
  · obtain ⟨E2, M2⟩ := u
    obtain ⟨rfl, hB⟩ := hB
    have hP2 : va_P D vwCl (Wd tc ad M2) H1 := by rw [← ht]; exact hB
    exact vx_out (fun x hx => (hT x hx).elim) E.2.2.2.2.2.2.2.2.1 hce hcv hcl (fun t1 h1 h2 => ⟨(E1, M2), hx _ _ hw, ⟨rfl, by show va_P D vwCl (Wd tc ad M2) t1.heap; rw [h1]; exact hP2⟩, hS1.F h1⟩) hS1.2.2 hmc.1 hmc.2
  · exact kk r u hw H1 locs1 ls (by rw [← ht]; exact hB) hS1 h
theorem rx_callVVP (E : Ev p s m args meth c D tc ad own cc nL) (hfl : l.stackTraces = false) {C : String} {T : u_T} {N b ci : Nat} {y : MethodName} {bytes : ByteArray} {maxL n idx d0 k1 : Nat}  {As rest stk : List Value} {K : (Nat → Nat → Int32) → Prop} {X1 : String → (Nat → Nat → Int32) → Prop} (hM : XV y bytes maxL d0 k1 ad (.ref (ad b) :: As) M K X1) (hq : Lim y.cls ≤ Lim own) (cv : CV C y bytes maxL none n) (hl : Cond.methodLink own idx y ∈ TS) (hmx : maxL ≤ 21) (hb : b < Lim own) (hcel : ∀ R, ∃ fs, cel tc ad b R = .inr (ci, fs)) (hcl : vwCl[ci]? = some (C, T, N)) (hn : As.length = n) (hst : stk = As.reverse ++ .ref (ad b) :: rest) (hcat : (rest.map fun v => v.category).sum ≤ 8) (hR : d0 + 1 ≤ R.frames ∧ 40 * (d0 + 1) ≤ R.locals) (hcs : cells + k1 ≤ R.cells ∧ slots + 6 * k1 ≤ R.slots) (d : decode cc pc = .ok (.invokevirtual idx, 3)) (hT : ∀ x ∈ c.exceptionTable.toList, False) (hmc : cells + k1 ≤ mc ∧ slots + 6 * k1 ≤ ms) (hx : ∀ E' M', X1 E' M' → X E' M') (kk : ∀ (M' : (Nat → Nat → Int32)), K M' → Wa p l e R s m args below meth c (cells + k1) (slots + 6 * k1) (vx_MQ below Qc (XC0 X D tc ad (A0 ad s.heap.size)) args s mc ms (A0 ad s.heap.size)) D tc ad nL M' (pc + 3) L rest) : Wa p l e R s m args below meth c cells slots (vx_MQ below Qc (XC0 X D tc ad (A0 ad s.heap.size)) args s mc ms (A0 ad s.heap.size)) D tc ad nL M pc L stk := by
  intro H locs ls hP hS h
  subst hst
  obtain ⟨fs, hcel⟩ := hcel (M b)
  have hlks := GT_V (own := own) cv hl
  obtain ⟨-, -, -, -, c1, c2, c3, c4⟩ := cv
  refine vx_callv (vx_runV (As := As) (rest := rest) (C := C) ⟨E.1, E.2.1, E.2.2.1, E.2.2.2.1, E.2.2.2.2.1⟩ (hM (Nat.le_trans hq E.2.2.2.2.2.2.2.2.2) l hfl D tc H.size) (cwV n E.2.2.2.2.1 hlks rfl rfl rfl ⟨c1, c2, c3, c4⟩ ⟨hR.1, by show 8 + (maxL + 11) + 40 * d0 ≤ R.locals; omega⟩) ⟨pre_blind, va_recv E.2.2.2.2.2.1 hP hcl (wd_of (lwE E hb) hcel), fun U hU hW => ⟨rfl, pre_at E hP hS hU hW⟩⟩ rfl hn h.1 rfl (lv_room hcat) d hcs) hS (fun q _ hq => A0_mono hS.1 q hq) (fun q hq => A0_mono hS.1 q hq) (fun q _ hq => A0_mono hS.1 q hq) (fun E1 ce q9 u t H1 locs1 ht hvm hw hB hz1 hk1 hS1 hce hcv hcl => ?_) (fun u t H1 locs1 ht hvm hw hB hz1 hk1 hS1 => ?_)
  · obtain ⟨E2, M2⟩ := u
    obtain ⟨rfl, hB⟩ := hB
    have hP2 : va_P D vwCl (Wd tc ad M2) H1 := by rw [← ht]; exact hB
    exact vx_out (fun x hx => (hT x hx).elim) E.2.2.2.2.2.2.2.2.1 hce hcv hcl (fun t1 h1 h2 => ⟨(E1, M2), hx _ _ hw, ⟨rfl, by show va_P D vwCl (Wd tc ad M2) t1.heap; rw [h1]; exact hP2⟩, hS1.F h1⟩) hS1.2.2 hmc.1 hmc.2
  · exact kk u hw H1 locs1 ls (by rw [← ht]; exact hB) hS1 h
theorem rx_callVSP (E : Ev p s m args meth c D tc ad own cc nL) (hfl : l.stackTraces = false)  {y : MethodName} {bytes : ByteArray} {maxL n idx d0 k1 : Nat}  {As rest stk : List Value} {K : (Nat → Nat → Int32) → Prop} {X1 : String → (Nat → Nat → Int32) → Prop} (hM : XV y bytes maxL d0 k1 ad As M K X1) (hq : Lim y.cls ≤ Lim own) (cv : CT y bytes maxL none n) (hl : Cond.methodLink own idx y ∈ TS) (hmx : maxL ≤ 21)  (hn : As.length = n) (hst : stk = As.reverse ++ rest) (hcat : (rest.map fun v => v.category).sum ≤ 8) (hR : d0 + 1 ≤ R.frames ∧ 40 * (d0 + 1) ≤ R.locals) (hcs : cells + k1 ≤ R.cells ∧ slots + 6 * k1 ≤ R.slots) (d : decode cc pc = .ok (.invokestatic idx, 3)) (hT : ∀ x ∈ c.exceptionTable.toList, False) (hmc : cells + k1 ≤ mc ∧ slots + 6 * k1 ≤ ms) (hx : ∀ E' M', X1 E' M' → X E' M') (kk : ∀ (M' : (Nat → Nat → Int32)), K M' → Wa p l e R s m args below meth c (cells + k1) (slots + 6 * k1) (vx_MQ below Qc (XC0 X D tc ad (A0 ad s.heap.size)) args s mc ms (A0 ad s.heap.size)) D tc ad nL M' (pc + 3) L rest) : Wa p l e R s m args below meth c cells slots (vx_MQ below Qc (XC0 X D tc ad (A0 ad s.heap.size)) args s mc ms (A0 ad s.heap.size)) D tc ad nL M pc L stk := by
  intro H locs ls hP hS h
  subst hst
  have hlks := GT_S (own := own) cv hl
  obtain ⟨-, -, -, c2, c3, c4⟩ := cv
  refine vx_callv (vx_runS (As := As) (rest := rest) ⟨E.1, E.2.1, E.2.2.1, E.2.2.2.1, E.2.2.2.2.1⟩ (hM (Nat.le_trans hq E.2.2.2.2.2.2.2.2.2) l hfl D tc H.size) (va_cwS n E.2.2.2.2.1 hlks rfl rfl rfl ⟨c2, c3, c4⟩ ⟨hR.1, by show 8 + (maxL + 11) + 40 * d0 ≤ R.locals; omega⟩) ⟨pre_blind, fun U hU hW => ⟨rfl, pre_at E hP hS hU hW⟩⟩ rfl hn h.1 rfl (lv_room hcat) d hcs) hS (fun q _ hq => A0_mono hS.1 q hq) (fun q hq => A0_mono hS.1 q hq) (fun q _ hq => A0_mono hS.1 q hq) (fun E1 ce q9 u t H1 locs1 ht hvm hw hB hz1 hk1 hS1 hce hcv hcl => ?_) (fun u t H1 locs1 ht hvm hw hB hz1 hk1 hS1 => ?_)
  · obtain ⟨E2, M2⟩ := u
    obtain ⟨rfl, hB⟩ := hB
    have hP2 : va_P D vwCl (Wd tc ad M2) H1 := by rw [← ht]; exact hB
    exact vx_out (fun x hx => (hT x hx).elim) E.2.2.2.2.2.2.2.2.1 hce hcv hcl (fun t1 h1 h2 => ⟨(E1, M2), hx _ _ hw, ⟨rfl, by show va_P D vwCl (Wd tc ad M2) t1.heap; rw [h1]; exact hP2⟩, hS1.F h1⟩) hS1.2.2 hmc.1 hmc.2
  · exact kk u hw H1 locs1 ls (by rw [← ht]; exact hB) hS1 h
theorem rx_callAVP (E : Ev p s m args meth c D tc ad own cc nL) (hfl : l.stackTraces = false) {C : String} {T : u_T} {N b ci : Nat} {y : MethodName} {bytes : ByteArray} {maxL n idx d0 k1 : Nat} {ret : Option FieldType} {As rest stk : List Value} {K : Option Nat → (Nat → Nat → Int32) → Prop} {X1 : String → (Nat → Nat → Int32) → Prop} (hM : XA y bytes maxL ret d0 k1 ad (.ref (ad b) :: As) M K X1) (hq : Lim y.cls ≤ Lim own) (cv : CV C y bytes maxL ret n) (hl : Cond.methodLink own idx y ∈ TS) (hmx : maxL ≤ 21) (hb : b < Lim own) (hcel : ∀ R, ∃ fs, cel tc ad b R = .inr (ci, fs)) (hcl : vwCl[ci]? = some (C, T, N)) (hn : As.length = n) (hst : stk = As.reverse ++ .ref (ad b) :: rest) (hcat : (rest.map fun v => v.category).sum ≤ 8) (hR : d0 + 1 ≤ R.frames ∧ 40 * (d0 + 1) ≤ R.locals) (hcs : cells + k1 ≤ R.cells ∧ slots + 6 * k1 ≤ R.slots) (d : decode cc pc = .ok (.invokevirtual idx, 3)) (hT : ∀ x ∈ c.exceptionTable.toList, False) (hmc : cells + k1 ≤ mc ∧ slots + 6 * k1 ≤ ms) (hx : ∀ E' M', X1 E' M' → X E' M') (kk : ∀ (r : Option Nat) (M' : (Nat → Nat → Int32)), K r M' → Wa p l e R s m args below meth c (cells + k1) (slots + 6 * k1) (vx_MQ below Qc (XC0 X D tc ad (A0 ad s.heap.size)) args s mc ms (A0 ad s.heap.size)) D tc ad nL M' (pc + 3) L (va_rf (r.map ad) :: rest)) : Wa p l e R s m args below meth c cells slots (vx_MQ below Qc (XC0 X D tc ad (A0 ad s.heap.size)) args s mc ms (A0 ad s.heap.size)) D tc ad nL M pc L stk := by
  intro H locs ls hP hS h
  subst hst
  obtain ⟨fs, hcel⟩ := hcel (M b)
  have hlks := GT_V (own := own) cv hl
  obtain ⟨-, -, -, -, c1, c2, c3, c4⟩ := cv
  refine vx_callq (vx_runV (As := As) (rest := rest) (C := C) ⟨E.1, E.2.1, E.2.2.1, E.2.2.2.1, E.2.2.2.2.1⟩ (hM (Nat.le_trans hq E.2.2.2.2.2.2.2.2.2) l hfl D tc H.size) (cwV n E.2.2.2.2.1 hlks rfl rfl rfl ⟨c1, c2, c3, c4⟩ ⟨hR.1, by show 8 + (maxL + 11) + 40 * d0 ≤ R.locals; omega⟩) ⟨pre_blind, va_recv E.2.2.2.2.2.1 hP hcl (wd_of (lwE E hb) hcel), fun U hU hW => ⟨rfl, pre_at E hP hS hU hW⟩⟩ rfl hn h.1 rfl (lv_room hcat) d hcs) hS (fun q _ hq => A0_mono hS.1 q hq) (fun q hq => A0_mono hS.1 q hq) (fun q _ hq => A0_mono hS.1 q hq) (fun E1 ce q9 u t H1 locs1 ht hvm hw hB hz1 hk1 hS1 hce hcv hcl => ?_) (fun r u t H1 locs1 ht hvm hw hB hz1 hk1 hS1 => ?_)
  · obtain ⟨E2, M2⟩ := u
    obtain ⟨rfl, hB⟩ := hB
    have hP2 : va_P D vwCl (Wd tc ad M2) H1 := by rw [← ht]; exact hB
    exact vx_out (fun x hx => (hT x hx).elim) E.2.2.2.2.2.2.2.2.1 hce hcv hcl (fun t1 h1 h2 => ⟨(E1, M2), hx _ _ hw, ⟨rfl, by show va_P D vwCl (Wd tc ad M2) t1.heap; rw [h1]; exact hP2⟩, hS1.F h1⟩) hS1.2.2 hmc.1 hmc.2
  · obtain ⟨o, M1⟩ := u
    obtain ⟨rfl, hw⟩ := hw
    exact kk o M1 hw H1 locs1 ls (by rw [← ht]; exact hB) hS1 h
theorem rx_callASP (E : Ev p s m args meth c D tc ad own cc nL) (hfl : l.stackTraces = false)  {y : MethodName} {bytes : ByteArray} {maxL n idx d0 k1 : Nat} {ret : Option FieldType} {As rest stk : List Value} {K : Option Nat → (Nat → Nat → Int32) → Prop} {X1 : String → (Nat → Nat → Int32) → Prop} (hM : XA y bytes maxL ret d0 k1 ad As M K X1) (hq : Lim y.cls ≤ Lim own) (cv : CT y bytes maxL ret n) (hl : Cond.methodLink own idx y ∈ TS) (hmx : maxL ≤ 21)  (hn : As.length = n) (hst : stk = As.reverse ++ rest) (hcat : (rest.map fun v => v.category).sum ≤ 8) (hR : d0 + 1 ≤ R.frames ∧ 40 * (d0 + 1) ≤ R.locals) (hcs : cells + k1 ≤ R.cells ∧ slots + 6 * k1 ≤ R.slots) (d : decode cc pc = .ok (.invokestatic idx, 3)) (hT : ∀ x ∈ c.exceptionTable.toList, False) (hmc : cells + k1 ≤ mc ∧ slots + 6 * k1 ≤ ms) (hx : ∀ E' M', X1 E' M' → X E' M') (kk : ∀ (r : Option Nat) (M' : (Nat → Nat → Int32)), K r M' → Wa p l e R s m args below meth c (cells + k1) (slots + 6 * k1) (vx_MQ below Qc (XC0 X D tc ad (A0 ad s.heap.size)) args s mc ms (A0 ad s.heap.size)) D tc ad nL M' (pc + 3) L (va_rf (r.map ad) :: rest)) : Wa p l e R s m args below meth c cells slots (vx_MQ below Qc (XC0 X D tc ad (A0 ad s.heap.size)) args s mc ms (A0 ad s.heap.size)) D tc ad nL M pc L stk := by
  intro H locs ls hP hS h
  subst hst
  have hlks := GT_S (own := own) cv hl
  obtain ⟨-, -, -, c2, c3, c4⟩ := cv
  refine vx_callq (vx_runS (As := As) (rest := rest) ⟨E.1, E.2.1, E.2.2.1, E.2.2.2.1, E.2.2.2.2.1⟩ (hM (Nat.le_trans hq E.2.2.2.2.2.2.2.2.2) l hfl D tc H.size) (va_cwS n E.2.2.2.2.1 hlks rfl rfl rfl ⟨c2, c3, c4⟩ ⟨hR.1, by show 8 + (maxL + 11) + 40 * d0 ≤ R.locals; omega⟩) ⟨pre_blind, fun U hU hW => ⟨rfl, pre_at E hP hS hU hW⟩⟩ rfl hn h.1 rfl (lv_room hcat) d hcs) hS (fun q _ hq => A0_mono hS.1 q hq) (fun q hq => A0_mono hS.1 q hq) (fun q _ hq => A0_mono hS.1 q hq) (fun E1 ce q9 u t H1 locs1 ht hvm hw hB hz1 hk1 hS1 hce hcv hcl => ?_) (fun r u t H1 locs1 ht hvm hw hB hz1 hk1 hS1 => ?_)
  · obtain ⟨E2, M2⟩ := u
    obtain ⟨rfl, hB⟩ := hB
    have hP2 : va_P D vwCl (Wd tc ad M2) H1 := by rw [← ht]; exact hB
    exact vx_out (fun x hx => (hT x hx).elim) E.2.2.2.2.2.2.2.2.1 hce hcv hcl (fun t1 h1 h2 => ⟨(E1, M2), hx _ _ hw, ⟨rfl, by show va_P D vwCl (Wd tc ad M2) t1.heap; rw [h1]; exact hP2⟩, hS1.F h1⟩) hS1.2.2 hmc.1 hmc.2
  · obtain ⟨o, M1⟩ := u
    obtain ⟨rfl, hw⟩ := hw
    exact kk o M1 hw H1 locs1 ls (by rw [← ht]; exact hB) hS1 h
theorem rx_callIVH (E : Ev p s m args meth c D tc ad own cc nL) (hfl : l.stackTraces = false) {C : String} {T : u_T} {N b ci : Nat} {y : MethodName} {bytes : ByteArray} {maxL n idx d0 k1 : Nat} {ret : Option FieldType} {As rest stk : List Value} {K : Int32 → (Nat → Nat → Int32) → Prop} {X1 : String → (Nat → Nat → Int32) → Prop} (hM : XI y bytes maxL ret d0 k1 ad (.ref (ad b) :: As) M K X1) (hq : Lim y.cls ≤ Lim own) (cv : CV C y bytes maxL ret n) (hl : Cond.methodLink own idx y ∈ TS) (hmx : maxL ≤ 21) (hb : b < Lim own) (hcel : ∀ R, ∃ fs, cel tc ad b R = .inr (ci, fs)) (hcl : vwCl[ci]? = some (C, T, N)) (hn : As.length = n) (hst : stk = As.reverse ++ .ref (ad b) :: rest) (hcat : (rest.map fun v => v.category).sum ≤ 8) (hR : d0 + 1 ≤ R.frames ∧ 40 * (d0 + 1) ≤ R.locals) (hcs : cells + k1 ≤ R.cells ∧ slots + 6 * k1 ≤ R.slots) (d : decode cc pc = .ok (.invokevirtual idx, 3)) (hx : ∀ E' M', X1 E' M' → ∀ (H : Heap) (locs : List Loc) (ls : Array Slot) (ce : Cell) (q : Addr), va_P D vwCl (Wd tc ad M') H → va_S (A0 ad s.heap.size) s.heap H locs → lv_has ls nL L → H[q]? = some ce → ce.vm = .none → s.vm.findClass E' = some ce.cls → vx_W p l e R s m args below meth c H locs (cells + k1) (slots + 6 * k1) Q (F0 m pc ls rest) q) (kk : ∀ (r : Int32) (M' : (Nat → Nat → Int32)), K r M' → Wa p l e R s m args below meth c (cells + k1) (slots + 6 * k1) Q D tc ad nL M' (pc + 3) L (.int r :: rest)) : Wa p l e R s m args below meth c cells slots Q D tc ad nL M pc L stk := by
  intro H locs ls hP hS h
  subst hst
  obtain ⟨fs, hcel⟩ := hcel (M b)
  have hlks := GT_V (own := own) cv hl
  obtain ⟨-, -, -, -, c1, c2, c3, c4⟩ := cv
  refine vx_calli (vx_runV (As := As) (rest := rest) (C := C) ⟨E.1, E.2.1, E.2.2.1, E.2.2.2.1, E.2.2.2.2.1⟩ (hM (Nat.le_trans hq E.2.2.2.2.2.2.2.2.2) l hfl D tc H.size) (cwV n E.2.2.2.2.1 hlks rfl rfl rfl ⟨c1, c2, c3, c4⟩ ⟨hR.1, by show 8 + (maxL + 11) + 40 * d0 ≤ R.locals; omega⟩) ⟨pre_blind, va_recv E.2.2.2.2.2.1 hP hcl (wd_of (lwE E hb) hcel), fun U hU hW => ⟨rfl, pre_at E hP hS hU hW⟩⟩ rfl hn h.1 rfl (lv_room hcat) d hcs) hS (fun q _ hq => A0_mono hS.1 q hq) (fun q hq => A0_mono hS.1 q hq) (fun q _ hq => A0_mono hS.1 q hq) (fun E1 ce q9 u t H1 locs1 ht hvm hw hB hz1 hk1 hS1 hce hcv hcl => ?_) (fun r u t H1 locs1 ht hvm hw hB hz1 hk1 hS1 => ?_)
  · obtain ⟨E2, M2⟩ := u
    obtain ⟨rfl, hB⟩ := hB
    exact hx _ _ hw H1 locs1 ls ce q9 (by rw [← ht]; exact hB) hS1 h hce hcv hcl
  · exact kk r u hw H1 locs1 ls (by rw [← ht]; exact hB) hS1 h
theorem ra_widen {k n : Nat} (h1 : cells ≤ k) (h2 : slots ≤ n) (kk : Wa p l e R s m args below meth c k n Q D tc ad nL M pc L st) : Wa p l e R s m args below meth c cells slots Q D tc ad nL M pc L st := fun H locs ls hP hS h => W.widen h1 h2 (kk H locs ls hP hS h)
def MD (y : MethodName) (bytes : ByteArray) (maxL : Nat) (d : Nat) (ad : Nat → Nat) (av : List Value) (M : Nat → Nat → Int32) (K : UInt64 → (Nat → Nat → Int32) → Prop) : Prop :=
  Lim y.cls ≤ nW ad → ∀ (l : Launch) (D : va_G) (tc : Nat → ClassId) (sz : Nat), Met l y (Cond.code y bytes maxL (some .double) :: TS) (rmD d) (va_Pc av (fun U => U.heap.size = sz ∧ PreW D tc ad M U)) (va_Qd K (EndW D tc ad) (A0 ad sz)) 0 0 (A0 ad sz)
theorem MD_of {y : MethodName} {bytes : ByteArray} {maxL d : Nat} {ad : Nat → Nat} {av : List Value} {M : Nat → Nat → Int32} {K : UInt64 → (Nat → Nat → Int32) → Prop} (own : String) (hown : y.cls = own) (hy : plainName y.cls = true) (hlen : (lg_sl av).length ≤ maxL)
    (body : ∀ (p : Program) (l : Launch) (e : Env) (s : State) (m : MethodId) (below : List Frame) (meth : Method) (c : Code) (D : va_G) (tc : Nat → ClassId), Ev p s m av.toArray meth c D tc ad own bytes maxL → meth.sig.returnType = some .double → Wa p l e (rmD d) s m av.toArray below meth c 0 0 (MQ below (va_Qd K (EndW D tc ad) (A0 ad s.heap.size)) av.toArray s 0 0 (A0 ad s.heap.size)) D tc ad maxL M 0 (lv_args 0 av) []) : MD y bytes maxL d ad av M K := by
  intro hlim l D tc sz
  refine Met.ofW (cc := bytes) (maxL := maxL) (ret := some .double) hy rfl ?_
  intro p e s m args below meth c s₁ B hml hv
  obtain ⟨rfl, hsz, hP, hK, hI, hS⟩ := hv
  subst hsz
  have hts := atoms_spec (ws := Cond.code y bytes maxL (some .double) :: TS) B.pre
  have hts : ∀ w ∈ TS, w.before av.toArray s = true := fun w h => hts w (List.mem_cons_of_mem _ h)
  have ho : s.vm.findClass own = some m.cls := by rw [← hown]; exact findClass_of_methodNamed B.named
  have hl := lv_entry av (n := maxL) hlen
  rw [lg_entry_eq]
  generalize (lg_sl av ++ List.replicate (maxL - (lg_sl av).length) Slot.unset).toArray = ls at hl ⊢
  exact body p l e s m below meth c D tc ⟨B.exec, B.bytes, hml, ho, hts, hK, hI, hS, B.notSynchronized, by rw [← hown]; exact hlim⟩ B.returns s.heap [] ls hP va_S.rf hl
theorem ra_dret (E : Ev p s m args meth c D tc ad own cc nL) {K : UInt64 → (Nat → Nat → Int32) → Prop} {v : UInt64} (hr : meth.sig.returnType = some .double) (d : decode cc pc = .ok (.dreturn, 1)) (k : K v M) : Wa p l e R s m args below meth c 0 0 (MQ below (va_Qd K (EndW D tc ad) (A0 ad s.heap.size)) args s 0 0 (A0 ad s.heap.size)) D tc ad nL M pc L [.double v] := fun H locs ls hP hS h => W.dret (v := v) E.1 E.2.1 hr (fun t ht _ => ⟨⟨v, M, rfl, k, by show va_P D vwCl (Wd tc ad M) t.heap; rw [ht]; exact hP⟩, hS.F ht⟩) hS.2.2 d E.2.2.2.2.2.2.2.2.1
theorem ra_dconst0 (E : Ev p s m args meth c D tc ad own cc nL) (d : decode cc pc = .ok (.dconst 0, 1)) (kk : Wa p l e R s m args below meth c cells slots Q D tc ad nL M (pc + 1) L (.double FP.dconst0 :: st)) : Wa p l e R s m args below meth c cells slots Q D tc ad nL M pc L st := fun H locs ls hP hS h => lv_dconst0 E.1 E.2.1 d (kk H locs ls hP hS h)
theorem ra_i2d (E : Ev p s m args meth c D tc ad own cc nL) {x : Int32} (d : decode cc pc = .ok (.i2d, 1)) (kk : Wa p l e R s m args below meth c cells slots Q D tc ad nL M (pc + 1) L (.double (FP.i2d x) :: st)) : Wa p l e R s m args below meth c cells slots Q D tc ad nL M pc L (.int x :: st) := fun H locs ls hP hS h => lv_i2d E.1 E.2.1 d (kk H locs ls hP hS h)
theorem ra_ddiv (E : Ev p s m args meth c D tc ad own cc nL) {x y : UInt64} (d : decode cc pc = .ok (.ddiv, 1)) (hn : vf_n64 (FP.ddiv x y)) (kk : Wa p l e R s m args below meth c cells slots Q D tc ad nL M (pc + 1) L (.double (FP.ddiv x y) :: st)) : Wa p l e R s m args below meth c cells slots Q D tc ad nL M pc L (.double y :: .double x :: st) := fun H locs ls hP hS h => lv_ddiv E.1 E.2.1 d hn (kk H locs ls hP hS h)
def MF (y : MethodName) (bytes : ByteArray) (maxL : Nat) (d : Nat) (ad : Nat → Nat) (av : List Value) (M : Nat → Nat → Int32) (K : UInt32 → (Nat → Nat → Int32) → Prop) : Prop :=
  Lim y.cls ≤ nW ad → ∀ (l : Launch) (D : va_G) (tc : Nat → ClassId) (sz : Nat), Met l y (Cond.code y bytes maxL (some .float) :: TS) (rmD d) (va_Pc av (fun U => U.heap.size = sz ∧ PreW D tc ad M U)) (va_Qf K (EndW D tc ad) (A0 ad sz)) 0 0 (A0 ad sz)
theorem MF_of {y : MethodName} {bytes : ByteArray} {maxL d : Nat} {ad : Nat → Nat} {av : List Value} {M : Nat → Nat → Int32} {K : UInt32 → (Nat → Nat → Int32) → Prop} (own : String) (hown : y.cls = own) (hy : plainName y.cls = true) (hlen : (lg_sl av).length ≤ maxL)
    (body : ∀ (p : Program) (l : Launch) (e : Env) (s : State) (m : MethodId) (below : List Frame) (meth : Method) (c : Code) (D : va_G) (tc : Nat → ClassId), Ev p s m av.toArray meth c D tc ad own bytes maxL → meth.sig.returnType = some .float → Wa p l e (rmD d) s m av.toArray below meth c 0 0 (MQ below (va_Qf K (EndW D tc ad) (A0 ad s.heap.size)) av.toArray s 0 0 (A0 ad s.heap.size)) D tc ad maxL M 0 (lv_args 0 av) []) : MF y bytes maxL d ad av M K := by
  intro hlim l D tc sz
  refine Met.ofW (cc := bytes) (maxL := maxL) (ret := some .float) hy rfl ?_
  intro p e s m args below meth c s₁ B hml hv
  obtain ⟨rfl, hsz, hP, hK, hI, hS⟩ := hv
  subst hsz
  have hts := atoms_spec (ws := Cond.code y bytes maxL (some .float) :: TS) B.pre
  have hts : ∀ w ∈ TS, w.before av.toArray s = true := fun w h => hts w (List.mem_cons_of_mem _ h)
  have ho : s.vm.findClass own = some m.cls := by rw [← hown]; exact findClass_of_methodNamed B.named
  have hl := lv_entry av (n := maxL) hlen
  rw [lg_entry_eq]
  generalize (lg_sl av ++ List.replicate (maxL - (lg_sl av).length) Slot.unset).toArray = ls at hl ⊢
  exact body p l e s m below meth c D tc ⟨B.exec, B.bytes, hml, ho, hts, hK, hI, hS, B.notSynchronized, by rw [← hown]; exact hlim⟩ B.returns s.heap [] ls hP va_S.rf hl
theorem ra_fret (E : Ev p s m args meth c D tc ad own cc nL) {K : UInt32 → (Nat → Nat → Int32) → Prop} {v : UInt32} (hr : meth.sig.returnType = some .float) (d : decode cc pc = .ok (.freturn, 1)) (k : K v M) : Wa p l e R s m args below meth c 0 0 (MQ below (va_Qf K (EndW D tc ad) (A0 ad s.heap.size)) args s 0 0 (A0 ad s.heap.size)) D tc ad nL M pc L [.float v] := fun H locs ls hP hS h => W.fret (v := v) E.1 E.2.1 hr (fun t ht _ => ⟨⟨v, M, rfl, k, by show va_P D vwCl (Wd tc ad M) t.heap; rw [ht]; exact hP⟩, hS.F ht⟩) hS.2.2 d E.2.2.2.2.2.2.2.2.1
theorem ra_fconst0 (E : Ev p s m args meth c D tc ad own cc nL) (d : decode cc pc = .ok (.fconst 0, 1)) (kk : Wa p l e R s m args below meth c cells slots Q D tc ad nL M (pc + 1) L (.float FP.fconst0 :: st)) : Wa p l e R s m args below meth c cells slots Q D tc ad nL M pc L st := fun H locs ls hP hS h => lv_fconst0 E.1 E.2.1 d (kk H locs ls hP hS h)
theorem ra_i2f (E : Ev p s m args meth c D tc ad own cc nL) {x : Int32} (d : decode cc pc = .ok (.i2f, 1)) (kk : Wa p l e R s m args below meth c cells slots Q D tc ad nL M (pc + 1) L (.float (FP.i2f x) :: st)) : Wa p l e R s m args below meth c cells slots Q D tc ad nL M pc L (.int x :: st) := fun H locs ls hP hS h => lv_i2f E.1 E.2.1 d (kk H locs ls hP hS h)
theorem ra_fdiv (E : Ev p s m args meth c D tc ad own cc nL) {x y : UInt32} (d : decode cc pc = .ok (.fdiv, 1)) (hn : vf_n32 (FP.fdiv x y)) (kk : Wa p l e R s m args below meth c cells slots Q D tc ad nL M (pc + 1) L (.float (FP.fdiv x y) :: st)) : Wa p l e R s m args below meth c cells slots Q D tc ad nL M pc L (.float y :: .float x :: st) := fun H locs ls hP hS h => lv_fdiv E.1 E.2.1 d hn (kk H locs ls hP hS h)
def XW (y : MethodName) (bytes : ByteArray) (maxL : Nat) (ret : Option FieldType) (hh : List (Nat × Nat × Nat × Nat)) (d mc : Nat) (ad : Nat → Nat) (av : List Value) (M : Nat → Nat → Int32) (K : Int32 → (Nat → Nat → Int32) → Prop) : Prop :=
  Lim y.cls ≤ nW ad → ∀ (l : Launch), l.stackTraces = false → ∀ (D : va_G) (tc : Nat → ClassId) (sz : Nat), vx_Met l y (Cond.codeWith y bytes maxL ret hh :: TS) (rmX d mc) (va_Pc av (fun U => U.heap.size = sz ∧ PreW D tc ad M U)) (va_Qi K (EndW D tc ad) (A0 ad sz)) (XC0 (fun _ _ => False) D tc ad (A0 ad sz)) mc (6 * mc) (A0 ad sz)
theorem XW_of {y : MethodName} {bytes : ByteArray} {maxL d mc : Nat} {ret : Option FieldType} {hh : List (Nat × Nat × Nat × Nat)} {ad : Nat → Nat} {av : List Value} {M : Nat → Nat → Int32} {K : Int32 → (Nat → Nat → Int32) → Prop} (own : String) (hown : y.cls = own) (hy : plainName y.cls = true) (hlen : (lg_sl av).length ≤ maxL)
    (body : ∀ (p : Program) (l : Launch) (e : Env) (s : State) (m : MethodId) (below : List Frame) (meth : Method) (c : Code) (D : va_G) (tc : Nat → ClassId), Ev p s m av.toArray meth c D tc ad own bytes maxL → meth.sig.returnType = ret → l.stackTraces = false → c.exceptionTable.toList = tableOf hh → Wa p l e (rmX d mc) s m av.toArray below meth c 0 0 (vx_MQ below (va_Qi K (EndW D tc ad) (A0 ad s.heap.size)) (XC0 (fun _ _ => False) D tc ad (A0 ad s.heap.size)) av.toArray s mc (6 * mc) (A0 ad s.heap.size)) D tc ad maxL M 0 (lv_args 0 av) []) : XW y bytes maxL ret hh d mc ad av M K := by
  intro hlim l hfl D tc sz
  refine vx_ofWH (cc := bytes) (maxL := maxL) (ret := ret) (hh := hh) hy rfl ?_
  intro p e s m args below meth c s₁ B hml hv
  obtain ⟨rfl, hsz, hP, hK, hI, hS⟩ := hv
  subst hsz
  have hts0 := atoms_spec (ws := Cond.codeWith y bytes maxL ret hh :: TS) B.pre
  have hts : ∀ w ∈ TS, w.before av.toArray s = true := fun w h => hts0 w (List.mem_cons_of_mem _ h)
  have hTab := vx_table (x := y) B (hts0 _ List.mem_cons_self)
  have ho : s.vm.findClass own = some m.cls := by rw [← hown]; exact findClass_of_methodNamed B.named
  have hl := lv_entry av (n := maxL) hlen
  rw [lg_entry_eq]
  generalize (lg_sl av ++ List.replicate (maxL - (lg_sl av).length) Slot.unset).toArray = ls at hl ⊢
  exact body p l e s m below meth c D tc ⟨B.exec, B.bytes, hml, ho, hts, hK, hI, hS, B.notSynchronized, by rw [← hown]; exact hlim⟩ B.returns hfl hTab s.heap [] ls hP va_S.rf hl
theorem lmL {k : Nat} (h : k < 711) : k < Lim RL := Nat.lt_of_lt_of_le h (by decide +kernel)
theorem lq_13L : Lim RX13 ≤ Lim RL := by decide +kernel
theorem ra_last (E : Ev p s m args meth c D tc ad own cc nL) {x i : Int32} (hk : 710 < Lim own) (hd : i = 0 := by rfl) (d : decode cc pc = .ok (.lastore, 1)) (kk : Wa p l e R s m args below meth c cells slots Q D tc ad nL (u2 M 710 0 x) (pc + 1) L st) : Wa p l e R s m args below meth c cells slots Q D tc ad nL M pc L (.long x.toInt64 :: .int i :: .ref (ad 710) :: st) := fun H locs ls hP hS h => by
  subst hd
  refine va_last E.1 E.2.1 E.2.2.2.2.2.1 hP (Wd_D M _ E.2.2.2.2.2.2.1) hS 710 2 (wd_of (lwE E hk) (cel_710 tc ad _)) rfl (vpl 0 1 (by decide)) d (fun H1 locs1 hP1 _ hS1 => kk H1 locs1 ls (by
    have q := Wd_set tc ad M (lwE E hk) (upd (M 710) 0 x)
    rw [← q]
    have e : cel tc ad 710 (upd (M 710) 0 x) = .inl (tc 2, 1, .inr (.inl (vp_updL (fun j => (M 710 j).toInt64) (0 : Int32).toNatClampNeg x.toInt64))) := by
      rw [cel_710]
      congr 5
      funext j
      unfold upd vp_updL
      by_cases hj : j = 0
      · simp [hj, show (0 : Int32).toNatClampNeg = 0 from rfl]
      · simp [hj, show (0 : Int32).toNatClampNeg = 0 from rfl]
    rw [e]; exact hP1) hS1 h)
theorem rx_catch {hh : List (Nat × Nat × Nat × Nat)} (hTab : c.exceptionTable.toList = tableOf hh) (E : Ev p s m args meth c D tc ad own cc nL) {E' : String} {rest : List Value} (pre suf : List ExceptionTableEntry) (x : ExceptionTableEntry) (hs : tableOf hh = pre ++ x :: suf) (hpass : ∀ z ∈ pre, covers z pc = false ∨ (z.catchType ≠ 0 ∧ ∃ nm : String, Cond.classLink own z.catchType nm ∈ TS ∧ va_Nc E' nm s)) (hx : covers x pc = true) (h0 : x.catchType ≠ 0) (hl : Cond.classLink own x.catchType E' ∈ TS) (hcx : E' ∈ exns) (kk : ∀ q : Nat, Wa p l e R s m args below meth c cells slots Q D tc ad nL M x.handlerPc L [.ref q]) :
    ∀ (H : Heap) (locs : List Loc) (ls : Array Slot) (ce : Cell) (q : Addr), va_P D vwCl (Wd tc ad M) H → va_S (A0 ad s.heap.size) s.heap H locs → lv_has ls nL L → H[q]? = some ce → ce.vm = .none → s.vm.findClass E' = some ce.cls → vx_W p l e R s m args below meth c H locs cells slots Q (F0 m pc ls rest) q := fun H locs ls ce q hP hS h hce hcv hcl =>
  vx_catch E.2.2.2.1 pre x suf (hTab.trans hs) (fun z hz => (hpass z hz).imp id (fun w => ⟨w.1, w.2.choose, E.2.2.2.2.1 _ w.2.choose_spec.1, w.2.choose_spec.2⟩)) hx h0 (E.2.2.2.2.1 _ hl) ((E.2.2.2.2.2.2.2.1.2.2.2.2.2.1 _ hcx).use rfl) hce hcv hcl (kk q H locs ls hP hS h)
def CTW (y : MethodName) (bytes : ByteArray) (maxL : Nat) (ret : Option FieldType) (hh : List (Nat × Nat × Nat × Nat)) (n : Nat) : Prop := Cond.static y ∈ TS ∧ Cond.initialized y.cls ∈ TS ∧ Cond.codeWith y bytes maxL ret hh ∈ TS ∧ y.cls ≠ "java/lang/invoke/MethodHandle" ∧ y.cls ≠ "java/lang/invoke/VarHandle" ∧ (parseMethodDescriptor y.desc).map (fun d => d.parameters.length) = some n
theorem GT_W {y : MethodName} {bytes : ByteArray} {maxL n idx : Nat} {ret : Option FieldType} {hh : List (Nat × Nat × Nat × Nat)} (cv : CTW y bytes maxL ret hh n) (hl : Cond.methodLink own idx y ∈ TS) : GoodIn TS (va_wsS own idx y (Cond.codeWith y bytes maxL ret hh :: TS)) := TS_good fun w hw => by
  obtain ⟨h1, h2, h3, -⟩ := cv
  unfold va_wsS at hw
  simp only [List.cons_append, List.nil_append, List.mem_cons] at hw
  rcases hw with rfl | rfl | rfl | rfl | hw
  · exact hl
  · exact h1
  · exact h2
  · exact h3
  · exact hw
theorem rx_callW (E : Ev p s m args meth c D tc ad own cc nL) (hfl : l.stackTraces = false) {y : MethodName} {bytes : ByteArray} {maxL n idx d0 k1 : Nat} {ret : Option FieldType} {hh : List (Nat × Nat × Nat × Nat)} {As rest stk : List Value} {K : Int32 → (Nat → Nat → Int32) → Prop} (hM : XW y bytes maxL ret hh d0 k1 ad As M K) (hq : Lim y.cls ≤ Lim own) (cv : CTW y bytes maxL ret hh n) (hl : Cond.methodLink own idx y ∈ TS) (hmx : maxL ≤ 21) (hn : As.length = n) (hst : stk = As.reverse ++ rest) (hcat : (rest.map fun v => v.category).sum ≤ 8) (hR : d0 + 1 ≤ R.frames ∧ 40 * (d0 + 1) ≤ R.locals) (hcs : cells + k1 ≤ R.cells ∧ slots + 6 * k1 ≤ R.slots) (d : decode cc pc = .ok (.invokestatic idx, 3)) (kk : ∀ (r : Int32) (M' : (Nat → Nat → Int32)), K r M' → Wa p l e R s m args below meth c (cells + k1) (slots + 6 * k1) Q D tc ad nL M' (pc + 3) L (.int r :: rest)) : Wa p l e R s m args below meth c cells slots Q D tc ad nL M pc L stk := by
  intro H locs ls hP hS h
  subst hst
  have hlks := GT_W (own := own) cv hl
  obtain ⟨-, -, -, c2, c3, c4⟩ := cv
  refine vx_calli (vx_runSX (As := As) (rest := rest) ⟨E.1, E.2.1, E.2.2.1, E.2.2.2.1, E.2.2.2.2.1⟩ (hM (Nat.le_trans hq E.2.2.2.2.2.2.2.2.2) l hfl D tc H.size) (vx_cwSW n E.2.2.2.2.1 hlks rfl rfl rfl ⟨c2, c3, c4⟩ ⟨hR.1, by show 8 + (maxL + 11) + 40 * d0 ≤ R.locals; omega⟩) ⟨pre_blind, fun U hU hW => ⟨rfl, pre_at E hP hS hU hW⟩⟩ rfl hn h.1 rfl (lv_room hcat) d hcs) hS (fun q _ hq => A0_mono hS.1 q hq) (fun q hq => A0_mono hS.1 q hq) (fun q _ hq => A0_mono hS.1 q hq) (fun E1 ce q9 u t H1 locs1 ht hvm hw hB hz1 hk1 hS1 hce hcv hcl => hw.elim) (fun r u t H1 locs1 ht hvm hw hB hz1 hk1 hS1 => ?_)
  exact kk r u hw H1 locs1 ls (by rw [← ht]; exact hB) hS1 h
end RX
theorem kl_13 : Cond.classLink RL 13 "java/lang/IllegalArgumentException" ∈ TS := TS_of (tin_3 _ (List.mem_of_getElem? (i := 196) (by decide +kernel))) (by decide +kernel)
theorem kl_18 : Cond.classLink RL 18 "java/lang/IndexOutOfBoundsException" ∈ TS := TS_of (tin_4 _ (List.mem_of_getElem? (i := 43) (by decide +kernel))) (by decide +kernel)
theorem kl_118 : Cond.classLink RL 118 "java/lang/IllegalStateException" ∈ TS := TS_of (tin_5 _ (List.mem_of_getElem? (i := 212) (by decide +kernel))) (by decide +kernel)
theorem ctw_L_loadCanal : CTW yL_loadCanal cL_loadCanal 4 (some .int) [(0, 9, 12, 13)] 3 := ⟨TS_of (tin_3 _ (List.mem_of_getElem? (i := 194) (by decide +kernel))) (by decide +kernel), TS_of (tin_1 _ (List.mem_of_getElem? (i := 0) (by decide +kernel))) (by decide +kernel), TS_of (tin_3 _ (List.mem_of_getElem? (i := 195) (by decide +kernel))) (by decide +kernel), by decide +kernel, by decide +kernel, by decide +kernel⟩
theorem ctw_L_lockWait : CTW yL_lockWait cL_lockWait 4 (some .int) [(0, 9, 12, 18)] 3 := ⟨TS_of (tin_4 _ (List.mem_of_getElem? (i := 41) (by decide +kernel))) (by decide +kernel), TS_of (tin_1 _ (List.mem_of_getElem? (i := 0) (by decide +kernel))) (by decide +kernel), TS_of (tin_4 _ (List.mem_of_getElem? (i := 42) (by decide +kernel))) (by decide +kernel), by decide +kernel, by decide +kernel, by decide +kernel⟩
theorem ctw_L_clearance : CTW yL_clearance cL_clearance 4 (some .int) [(0, 9, 12, 18)] 3 := ⟨TS_of (tin_4 _ (List.mem_of_getElem? (i := 70) (by decide +kernel))) (by decide +kernel), TS_of (tin_1 _ (List.mem_of_getElem? (i := 0) (by decide +kernel))) (by decide +kernel), TS_of (tin_4 _ (List.mem_of_getElem? (i := 71) (by decide +kernel))) (by decide +kernel), by decide +kernel, by decide +kernel, by decide +kernel⟩
theorem ctw_L_bargeInLock : CTW yL_bargeInLock cL_bargeInLock 4 (some .int) [(0, 9, 12, 18)] 3 := ⟨TS_of (tin_4 _ (List.mem_of_getElem? (i := 77) (by decide +kernel))) (by decide +kernel), TS_of (tin_1 _ (List.mem_of_getElem? (i := 0) (by decide +kernel))) (by decide +kernel), TS_of (tin_4 _ (List.mem_of_getElem? (i := 78) (by decide +kernel))) (by decide +kernel), by decide +kernel, by decide +kernel, by decide +kernel⟩
theorem ctw_L_usedPairs : CTW yL_usedPairs cL_usedPairs 4 (some .int) [(0, 9, 12, 18)] 3 := ⟨TS_of (tin_4 _ (List.mem_of_getElem? (i := 84) (by decide +kernel))) (by decide +kernel), TS_of (tin_1 _ (List.mem_of_getElem? (i := 0) (by decide +kernel))) (by decide +kernel), TS_of (tin_4 _ (List.mem_of_getElem? (i := 85) (by decide +kernel))) (by decide +kernel), by decide +kernel, by decide +kernel, by decide +kernel⟩
theorem ctw_L_bargesAt : CTW yL_bargesAt cL_bargesAt 4 (some .int) [(0, 9, 12, 18)] 3 := ⟨TS_of (tin_4 _ (List.mem_of_getElem? (i := 97) (by decide +kernel))) (by decide +kernel), TS_of (tin_1 _ (List.mem_of_getElem? (i := 0) (by decide +kernel))) (by decide +kernel), TS_of (tin_4 _ (List.mem_of_getElem? (i := 98) (by decide +kernel))) (by decide +kernel), by decide +kernel, by decide +kernel, by decide +kernel⟩
theorem ctw_L_ordersAt : CTW yL_ordersAt cL_ordersAt 4 (some .int) [(0, 9, 12, 18)] 3 := ⟨TS_of (tin_4 _ (List.mem_of_getElem? (i := 105) (by decide +kernel))) (by decide +kernel), TS_of (tin_1 _ (List.mem_of_getElem? (i := 0) (by decide +kernel))) (by decide +kernel), TS_of (tin_4 _ (List.mem_of_getElem? (i := 106) (by decide +kernel))) (by decide +kernel), by decide +kernel, by decide +kernel, by decide +kernel⟩
theorem ctw_L_placeOf : CTW yL_placeOf cL_placeOf 4 (some .int) [(0, 9, 12, 18)] 3 := ⟨TS_of (tin_4 _ (List.mem_of_getElem? (i := 128) (by decide +kernel))) (by decide +kernel), TS_of (tin_1 _ (List.mem_of_getElem? (i := 0) (by decide +kernel))) (by decide +kernel), TS_of (tin_4 _ (List.mem_of_getElem? (i := 129) (by decide +kernel))) (by decide +kernel), by decide +kernel, by decide +kernel, by decide +kernel⟩
theorem ctw_L_targetOf : CTW yL_targetOf cL_targetOf 4 (some .int) [(0, 9, 12, 18)] 3 := ⟨TS_of (tin_4 _ (List.mem_of_getElem? (i := 148) (by decide +kernel))) (by decide +kernel), TS_of (tin_1 _ (List.mem_of_getElem? (i := 0) (by decide +kernel))) (by decide +kernel), TS_of (tin_4 _ (List.mem_of_getElem? (i := 149) (by decide +kernel))) (by decide +kernel), by decide +kernel, by decide +kernel, by decide +kernel⟩
theorem ctw_L_heightOf : CTW yL_heightOf cL_heightOf 4 (some .int) [(0, 9, 12, 18)] 3 := ⟨TS_of (tin_4 _ (List.mem_of_getElem? (i := 155) (by decide +kernel))) (by decide +kernel), TS_of (tin_1 _ (List.mem_of_getElem? (i := 0) (by decide +kernel))) (by decide +kernel), TS_of (tin_4 _ (List.mem_of_getElem? (i := 156) (by decide +kernel))) (by decide +kernel), by decide +kernel, by decide +kernel, by decide +kernel⟩
theorem ctw_L_timeInLock : CTW yL_timeInLock cL_timeInLock 4 (some .int) [(0, 9, 12, 18)] 3 := ⟨TS_of (tin_4 _ (List.mem_of_getElem? (i := 162) (by decide +kernel))) (by decide +kernel), TS_of (tin_1 _ (List.mem_of_getElem? (i := 0) (by decide +kernel))) (by decide +kernel), TS_of (tin_4 _ (List.mem_of_getElem? (i := 163) (by decide +kernel))) (by decide +kernel), by decide +kernel, by decide +kernel, by decide +kernel⟩
theorem ctw_L_flour : CTW yL_flour cL_flour 4 (some .int) [(0, 9, 12, 18)] 3 := ⟨TS_of (tin_4 _ (List.mem_of_getElem? (i := 169) (by decide +kernel))) (by decide +kernel), TS_of (tin_1 _ (List.mem_of_getElem? (i := 0) (by decide +kernel))) (by decide +kernel), TS_of (tin_4 _ (List.mem_of_getElem? (i := 170) (by decide +kernel))) (by decide +kernel), by decide +kernel, by decide +kernel, by decide +kernel⟩
theorem ctw_L_cleanPairs : CTW yL_cleanPairs cL_cleanPairs 4 (some .int) [(0, 9, 12, 18)] 3 := ⟨TS_of (tin_4 _ (List.mem_of_getElem? (i := 176) (by decide +kernel))) (by decide +kernel), TS_of (tin_1 _ (List.mem_of_getElem? (i := 0) (by decide +kernel))) (by decide +kernel), TS_of (tin_4 _ (List.mem_of_getElem? (i := 177) (by decide +kernel))) (by decide +kernel), by decide +kernel, by decide +kernel, by decide +kernel⟩
theorem ctw_L_dirtyPairs : CTW yL_dirtyPairs cL_dirtyPairs 4 (some .int) [(0, 9, 12, 18)] 3 := ⟨TS_of (tin_4 _ (List.mem_of_getElem? (i := 183) (by decide +kernel))) (by decide +kernel), TS_of (tin_1 _ (List.mem_of_getElem? (i := 0) (by decide +kernel))) (by decide +kernel), TS_of (tin_4 _ (List.mem_of_getElem? (i := 184) (by decide +kernel))) (by decide +kernel), by decide +kernel, by decide +kernel, by decide +kernel⟩
theorem ctw_L_queueLength : CTW yL_queueLength cL_queueLength 4 (some .int) [(0, 9, 12, 18)] 3 := ⟨TS_of (tin_4 _ (List.mem_of_getElem? (i := 190) (by decide +kernel))) (by decide +kernel), TS_of (tin_1 _ (List.mem_of_getElem? (i := 0) (by decide +kernel))) (by decide +kernel), TS_of (tin_4 _ (List.mem_of_getElem? (i := 191) (by decide +kernel))) (by decide +kernel), by decide +kernel, by decide +kernel, by decide +kernel⟩
theorem ctw_L_queuedOrder : CTW yL_queuedOrder cL_queuedOrder 5 (some .int) [(0, 10, 13, 18)] 4 := ⟨TS_of (tin_4 _ (List.mem_of_getElem? (i := 197) (by decide +kernel))) (by decide +kernel), TS_of (tin_1 _ (List.mem_of_getElem? (i := 0) (by decide +kernel))) (by decide +kernel), TS_of (tin_4 _ (List.mem_of_getElem? (i := 198) (by decide +kernel))) (by decide +kernel), by decide +kernel, by decide +kernel, by decide +kernel⟩
theorem ctw_L_readyCount : CTW yL_readyCount cL_readyCount 4 (some .int) [(0, 9, 12, 18)] 3 := ⟨TS_of (tin_4 _ (List.mem_of_getElem? (i := 208) (by decide +kernel))) (by decide +kernel), TS_of (tin_1 _ (List.mem_of_getElem? (i := 0) (by decide +kernel))) (by decide +kernel), TS_of (tin_4 _ (List.mem_of_getElem? (i := 209) (by decide +kernel))) (by decide +kernel), by decide +kernel, by decide +kernel, by decide +kernel⟩
theorem ctw_L_flourNeeded : CTW yL_flourNeeded cL_flourNeeded 4 (some .int) [(0, 9, 12, 18)] 3 := ⟨TS_of (tin_4 _ (List.mem_of_getElem? (i := 220) (by decide +kernel))) (by decide +kernel), TS_of (tin_1 _ (List.mem_of_getElem? (i := 0) (by decide +kernel))) (by decide +kernel), TS_of (tin_4 _ (List.mem_of_getElem? (i := 221) (by decide +kernel))) (by decide +kernel), by decide +kernel, by decide +kernel, by decide +kernel⟩
theorem ctw_L_orderPlace : CTW yL_orderPlace cL_orderPlace 4 (some .int) [(0, 9, 12, 18)] 3 := ⟨TS_of (tin_4 _ (List.mem_of_getElem? (i := 236) (by decide +kernel))) (by decide +kernel), TS_of (tin_1 _ (List.mem_of_getElem? (i := 0) (by decide +kernel))) (by decide +kernel), TS_of (tin_4 _ (List.mem_of_getElem? (i := 237) (by decide +kernel))) (by decide +kernel), by decide +kernel, by decide +kernel, by decide +kernel⟩
theorem ctw_L_bowls : CTW yL_bowls cL_bowls 4 (some .int) [(0, 9, 12, 18)] 3 := ⟨TS_of (tin_5 _ (List.mem_of_getElem? (i := 13) (by decide +kernel))) (by decide +kernel), TS_of (tin_1 _ (List.mem_of_getElem? (i := 0) (by decide +kernel))) (by decide +kernel), TS_of (tin_5 _ (List.mem_of_getElem? (i := 14) (by decide +kernel))) (by decide +kernel), by decide +kernel, by decide +kernel, by decide +kernel⟩
theorem ctw_L_pullsLeft : CTW yL_pullsLeft cL_pullsLeft 4 (some .int) [(0, 9, 12, 18)] 3 := ⟨TS_of (tin_5 _ (List.mem_of_getElem? (i := 20) (by decide +kernel))) (by decide +kernel), TS_of (tin_1 _ (List.mem_of_getElem? (i := 0) (by decide +kernel))) (by decide +kernel), TS_of (tin_5 _ (List.mem_of_getElem? (i := 21) (by decide +kernel))) (by decide +kernel), by decide +kernel, by decide +kernel, by decide +kernel⟩
theorem ctw_L_deadline : CTW yL_deadline cL_deadline 4 (some .int) [(0, 9, 12, 18)] 3 := ⟨TS_of (tin_5 _ (List.mem_of_getElem? (i := 27) (by decide +kernel))) (by decide +kernel), TS_of (tin_1 _ (List.mem_of_getElem? (i := 0) (by decide +kernel))) (by decide +kernel), TS_of (tin_5 _ (List.mem_of_getElem? (i := 28) (by decide +kernel))) (by decide +kernel), by decide +kernel, by decide +kernel, by decide +kernel⟩
theorem ctw_L_price : CTW yL_price cL_price 4 (some .int) [(0, 9, 12, 18)] 3 := ⟨TS_of (tin_5 _ (List.mem_of_getElem? (i := 34) (by decide +kernel))) (by decide +kernel), TS_of (tin_1 _ (List.mem_of_getElem? (i := 0) (by decide +kernel))) (by decide +kernel), TS_of (tin_5 _ (List.mem_of_getElem? (i := 35) (by decide +kernel))) (by decide +kernel), by decide +kernel, by decide +kernel, by decide +kernel⟩
theorem ctw_L_bargeOf : CTW yL_bargeOf cL_bargeOf 4 (some .int) [(0, 9, 12, 18)] 3 := ⟨TS_of (tin_5 _ (List.mem_of_getElem? (i := 45) (by decide +kernel))) (by decide +kernel), TS_of (tin_1 _ (List.mem_of_getElem? (i := 0) (by decide +kernel))) (by decide +kernel), TS_of (tin_5 _ (List.mem_of_getElem? (i := 46) (by decide +kernel))) (by decide +kernel), by decide +kernel, by decide +kernel, by decide +kernel⟩
theorem ctw_L_isOpen : CTW yL_isOpen cL_isOpen 4 (some .int) [(0, 16, 19, 18)] 3 := ⟨TS_of (tin_5 _ (List.mem_of_getElem? (i := 52) (by decide +kernel))) (by decide +kernel), TS_of (tin_1 _ (List.mem_of_getElem? (i := 0) (by decide +kernel))) (by decide +kernel), TS_of (tin_5 _ (List.mem_of_getElem? (i := 53) (by decide +kernel))) (by decide +kernel), by decide +kernel, by decide +kernel, by decide +kernel⟩
theorem ctw_L_isReady : CTW yL_isReady cL_isReady 4 (some .int) [(0, 16, 19, 18)] 3 := ⟨TS_of (tin_5 _ (List.mem_of_getElem? (i := 60) (by decide +kernel))) (by decide +kernel), TS_of (tin_1 _ (List.mem_of_getElem? (i := 0) (by decide +kernel))) (by decide +kernel), TS_of (tin_5 _ (List.mem_of_getElem? (i := 61) (by decide +kernel))) (by decide +kernel), by decide +kernel, by decide +kernel, by decide +kernel⟩
theorem ctw_L_isEaten : CTW yL_isEaten cL_isEaten 4 (some .int) [(0, 16, 19, 18)] 3 := ⟨TS_of (tin_5 _ (List.mem_of_getElem? (i := 68) (by decide +kernel))) (by decide +kernel), TS_of (tin_1 _ (List.mem_of_getElem? (i := 0) (by decide +kernel))) (by decide +kernel), TS_of (tin_5 _ (List.mem_of_getElem? (i := 69) (by decide +kernel))) (by decide +kernel), by decide +kernel, by decide +kernel, by decide +kernel⟩
theorem ctw_L_sailObstacle : CTW yL_sailObstacle cL_sailObstacle 5 (some .int) [(0, 10, 13, 18)] 4 := ⟨TS_of (tin_5 _ (List.mem_of_getElem? (i := 77) (by decide +kernel))) (by decide +kernel), TS_of (tin_1 _ (List.mem_of_getElem? (i := 0) (by decide +kernel))) (by decide +kernel), TS_of (tin_5 _ (List.mem_of_getElem? (i := 78) (by decide +kernel))) (by decide +kernel), by decide +kernel, by decide +kernel, by decide +kernel⟩
theorem ctw_L_journeyTime : CTW yL_journeyTime cL_journeyTime 5 (some .int) [(0, 10, 13, 18)] 4 := ⟨TS_of (tin_5 _ (List.mem_of_getElem? (i := 97) (by decide +kernel))) (by decide +kernel), TS_of (tin_1 _ (List.mem_of_getElem? (i := 0) (by decide +kernel))) (by decide +kernel), TS_of (tin_5 _ (List.mem_of_getElem? (i := 98) (by decide +kernel))) (by decide +kernel), by decide +kernel, by decide +kernel, by decide +kernel⟩
theorem ctw_L_minutesToTarget : CTW yL_minutesToTarget cL_minutesToTarget 4 (some .int) [(0, 9, 12, 18)] 3 := ⟨TS_of (tin_5 _ (List.mem_of_getElem? (i := 108) (by decide +kernel))) (by decide +kernel), TS_of (tin_1 _ (List.mem_of_getElem? (i := 0) (by decide +kernel))) (by decide +kernel), TS_of (tin_5 _ (List.mem_of_getElem? (i := 109) (by decide +kernel))) (by decide +kernel), by decide +kernel, by decide +kernel, by decide +kernel⟩
theorem ctw_L_willBeEaten : CTW yL_willBeEaten cL_willBeEaten 4 (some .int) [(0, 16, 19, 18)] 3 := ⟨TS_of (tin_5 _ (List.mem_of_getElem? (i := 176) (by decide +kernel))) (by decide +kernel), TS_of (tin_1 _ (List.mem_of_getElem? (i := 0) (by decide +kernel))) (by decide +kernel), TS_of (tin_5 _ (List.mem_of_getElem? (i := 177) (by decide +kernel))) (by decide +kernel), by decide +kernel, by decide +kernel, by decide +kernel⟩
theorem ctw_L_coinsAfter : CTW yL_coinsAfter cL_coinsAfter 4 (some .int) [(0, 9, 12, 13)] 3 := ⟨TS_of (tin_5 _ (List.mem_of_getElem? (i := 187) (by decide +kernel))) (by decide +kernel), TS_of (tin_1 _ (List.mem_of_getElem? (i := 0) (by decide +kernel))) (by decide +kernel), TS_of (tin_5 _ (List.mem_of_getElem? (i := 188) (by decide +kernel))) (by decide +kernel), by decide +kernel, by decide +kernel, by decide +kernel⟩
theorem ctw_L_nearestBarge : CTW yL_nearestBarge cL_nearestBarge 4 (some .int) [(0, 9, 12, 18)] 3 := ⟨TS_of (tin_5 _ (List.mem_of_getElem? (i := 198) (by decide +kernel))) (by decide +kernel), TS_of (tin_1 _ (List.mem_of_getElem? (i := 0) (by decide +kernel))) (by decide +kernel), TS_of (tin_5 _ (List.mem_of_getElem? (i := 199) (by decide +kernel))) (by decide +kernel), by decide +kernel, by decide +kernel, by decide +kernel⟩
theorem ctw_L_sail : CTW yL_sail cL_sail 5 (some .int) [(0, 10, 13, 18), (0, 10, 17, 118)] 4 := ⟨TS_of (tin_5 _ (List.mem_of_getElem? (i := 210) (by decide +kernel))) (by decide +kernel), TS_of (tin_1 _ (List.mem_of_getElem? (i := 0) (by decide +kernel))) (by decide +kernel), TS_of (tin_5 _ (List.mem_of_getElem? (i := 211) (by decide +kernel))) (by decide +kernel), by decide +kernel, by decide +kernel, by decide +kernel⟩
theorem ctw_L_makeOrder : CTW yL_makeOrder cL_makeOrder 7 (some .int) [(0, 14, 17, 18), (0, 14, 21, 13), (0, 14, 25, 118)] 6 := ⟨TS_of (tin_6 _ (List.mem_of_getElem? (i := 12) (by decide +kernel))) (by decide +kernel), TS_of (tin_1 _ (List.mem_of_getElem? (i := 0) (by decide +kernel))) (by decide +kernel), TS_of (tin_6 _ (List.mem_of_getElem? (i := 13) (by decide +kernel))) (by decide +kernel), by decide +kernel, by decide +kernel, by decide +kernel⟩
theorem ctw_L_take : CTW yL_take cL_take 5 (some .int) [(0, 10, 13, 18), (0, 10, 17, 118)] 4 := ⟨TS_of (tin_6 _ (List.mem_of_getElem? (i := 21) (by decide +kernel))) (by decide +kernel), TS_of (tin_1 _ (List.mem_of_getElem? (i := 0) (by decide +kernel))) (by decide +kernel), TS_of (tin_6 _ (List.mem_of_getElem? (i := 22) (by decide +kernel))) (by decide +kernel), by decide +kernel, by decide +kernel, by decide +kernel⟩
theorem ctw_L_drop : CTW yL_drop cL_drop 4 (some .int) [(0, 9, 12, 18), (0, 9, 15, 118)] 3 := ⟨TS_of (tin_6 _ (List.mem_of_getElem? (i := 42) (by decide +kernel))) (by decide +kernel), TS_of (tin_1 _ (List.mem_of_getElem? (i := 0) (by decide +kernel))) (by decide +kernel), TS_of (tin_6 _ (List.mem_of_getElem? (i := 43) (by decide +kernel))) (by decide +kernel), by decide +kernel, by decide +kernel, by decide +kernel⟩
theorem ctw_L_buyFlour : CTW yL_buyFlour cL_buyFlour 5 (some .int) [(0, 10, 13, 18), (0, 10, 17, 13), (0, 10, 21, 118)] 4 := ⟨TS_of (tin_6 _ (List.mem_of_getElem? (i := 58) (by decide +kernel))) (by decide +kernel), TS_of (tin_1 _ (List.mem_of_getElem? (i := 0) (by decide +kernel))) (by decide +kernel), TS_of (tin_6 _ (List.mem_of_getElem? (i := 59) (by decide +kernel))) (by decide +kernel), by decide +kernel, by decide +kernel, by decide +kernel⟩
theorem ctw_L_collect : CTW yL_collect cL_collect 4 (some .int) [(0, 9, 12, 18), (0, 9, 15, 118)] 3 := ⟨TS_of (tin_6 _ (List.mem_of_getElem? (i := 77) (by decide +kernel))) (by decide +kernel), TS_of (tin_1 _ (List.mem_of_getElem? (i := 0) (by decide +kernel))) (by decide +kernel), TS_of (tin_6 _ (List.mem_of_getElem? (i := 78) (by decide +kernel))) (by decide +kernel), by decide +kernel, by decide +kernel, by decide +kernel⟩
theorem ctw_L_wash : CTW yL_wash cL_wash 4 (some .int) [(0, 9, 12, 18), (0, 9, 15, 118)] 3 := ⟨TS_of (tin_6 _ (List.mem_of_getElem? (i := 92) (by decide +kernel))) (by decide +kernel), TS_of (tin_1 _ (List.mem_of_getElem? (i := 0) (by decide +kernel))) (by decide +kernel), TS_of (tin_6 _ (List.mem_of_getElem? (i := 93) (by decide +kernel))) (by decide +kernel), by decide +kernel, by decide +kernel, by decide +kernel⟩
theorem ctw_L_passMinutes : CTW yL_passMinutes cL_passMinutes 4 (some .int) [(0, 9, 12, 13), (0, 9, 15, 118)] 3 := ⟨TS_of (tin_6 _ (List.mem_of_getElem? (i := 104) (by decide +kernel))) (by decide +kernel), TS_of (tin_1 _ (List.mem_of_getElem? (i := 0) (by decide +kernel))) (by decide +kernel), TS_of (tin_6 _ (List.mem_of_getElem? (i := 105) (by decide +kernel))) (by decide +kernel), by decide +kernel, by decide +kernel, by decide +kernel⟩
theorem ctw_L_runScript : CTW yL_runScript cL_runScript 4 (some .int) [(0, 9, 12, 13)] 3 := ⟨TS_of (tin_6 _ (List.mem_of_getElem? (i := 112) (by decide +kernel))) (by decide +kernel), TS_of (tin_1 _ (List.mem_of_getElem? (i := 0) (by decide +kernel))) (by decide +kernel), TS_of (tin_6 _ (List.mem_of_getElem? (i := 113) (by decide +kernel))) (by decide +kernel), by decide +kernel, by decide +kernel, by decide +kernel⟩
theorem ctw_L_outputByte : CTW yL_outputByte cL_outputByte 4 (some .int) [(0, 9, 12, 18)] 3 := ⟨TS_of (tin_6 _ (List.mem_of_getElem? (i := 190) (by decide +kernel))) (by decide +kernel), TS_of (tin_1 _ (List.mem_of_getElem? (i := 0) (by decide +kernel))) (by decide +kernel), TS_of (tin_6 _ (List.mem_of_getElem? (i := 191) (by decide +kernel))) (by decide +kernel), by decide +kernel, by decide +kernel, by decide +kernel⟩
theorem ctw_L_undo : CTW yL_undo cL_undo 3 (some .int) [(0, 8, 11, 118)] 2 := ⟨TS_of (tin_6 _ (List.mem_of_getElem? (i := 198) (by decide +kernel))) (by decide +kernel), TS_of (tin_1 _ (List.mem_of_getElem? (i := 0) (by decide +kernel))) (by decide +kernel), TS_of (tin_6 _ (List.mem_of_getElem? (i := 199) (by decide +kernel))) (by decide +kernel), by decide +kernel, by decide +kernel, by decide +kernel⟩
theorem ctw_L_restoreSnapshot : CTW yL_restoreSnapshot cL_restoreSnapshot 3 (some .int) [(0, 8, 11, 118)] 2 := ⟨TS_of (tin_6 _ (List.mem_of_getElem? (i := 209) (by decide +kernel))) (by decide +kernel), TS_of (tin_1 _ (List.mem_of_getElem? (i := 0) (by decide +kernel))) (by decide +kernel), TS_of (tin_6 _ (List.mem_of_getElem? (i := 210) (by decide +kernel))) (by decide +kernel), by decide +kernel, by decide +kernel, by decide +kernel⟩
