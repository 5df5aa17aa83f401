/-! A WORLD THAT GROWS: n cells at ad 0 .. with contents ct 0 ..; a constructor begins with its own cell as the last -/
def put {α : Type} (f : Nat → α) (k : Nat) (v : α) : Nat → α := fun i => if i = k then v else f i
theorem put_s {α : Type} (f : Nat → α) (k : Nat) (v : α) : put f k v k = v := if_pos rfl
theorem put_n {α : Type} {f : Nat → α} {k i : Nat} {v : α} (h : i ≠ k) : put f k v i = f i := if_neg h
def Wg (ad : Nat → Nat) (ct : Nat → va_E) (n : Nat) : va_W := (List.range n).map (fun k => (ad k, ct k))
theorem Wg_len (ad : Nat → Nat) (ct : Nat → va_E) (n : Nat) : (Wg ad ct n).length = n := by unfold Wg; simp
theorem Wg_at {ad : Nat → Nat} {ct : Nat → va_E} {n k : Nat} (h : k < n) : (Wg ad ct n)[k]? = some (ad k, ct k) := by unfold Wg; rw [List.getElem?_map, List.getElem?_range h]; rfl
theorem Wg_inv {ad : Nat → Nat} {ct : Nat → va_E} {n k : Nat} {q : Nat × va_E} (h : (Wg ad ct n)[k]? = some q) : k < n ∧ q = (ad k, ct k) := by
  have hl := (List.getElem?_eq_some_iff.mp h).1
  rw [Wg_len] at hl
  rw [Wg_at hl] at h
  exact ⟨hl, (Option.some.inj h).symm⟩
theorem Wg_set {ad : Nat → Nat} {ct : Nat → va_E} {n k : Nat} (h : k < n) (x : va_E) : (Wg ad ct n).set k (ad k, x) = Wg ad (put ct k x) n := by
  apply List.ext_getElem?
  intro i
  rw [List.getElem?_set]
  by_cases hi : k = i
  · subst hi
    rw [if_pos rfl, if_pos (by rw [Wg_len]; exact h), Wg_at h, put_s]
  · rw [if_neg hi]
    by_cases hl : i < n
    · rw [Wg_at hl, Wg_at hl, put_n (fun q => hi q.symm)]
    · have : ∀ ct, (Wg ad ct n)[i]? = none := fun ct => by rw [List.getElem?_eq_none_iff, Wg_len]; omega
      rw [this, this]
theorem Wg_push (ad : Nat → Nat) (ct : Nat → va_E) (n q : Nat) (x : va_E) : Wg ad ct n ++ [(q, x)] = Wg (put ad n q) (put ct n x) (n + 1) := by
  apply List.ext_getElem?
  intro i
  by_cases hl : i < n
  · rw [List.getElem?_append_left (by rw [Wg_len]; exact hl), Wg_at hl, Wg_at (by omega), put_n (by omega), put_n (by omega)]
  · rw [List.getElem?_append_right (by rw [Wg_len]; omega), Wg_len]
    by_cases h2 : i = n
    · subst h2
      rw [Nat.sub_self, Wg_at (by omega), put_s, put_s]; rfl
    · rw [List.getElem?_eq_none_iff.mpr (by simp; omega), List.getElem?_eq_none_iff.mpr (by rw [Wg_len]; omega)]
def tr (N : Nat) (f : Nat → Nat) : Nat → Option Nat := fun j => if j < N then some (f j) else none
theorem tr_congr {N : Nat} {f g : Nat → Nat} (h : ∀ j, j < N → f j = g j) : tr N f = tr N g := by
  funext j
  unfold tr
  by_cases hj : j < N
  · rw [if_pos hj, if_pos hj, h j hj]
  · rw [if_neg hj, if_neg hj]
def aoN : List String := ["NoodleCanal$Section", "NoodleCanal$Barge", "NoodleCanal$Order", "NoodleCanal$Canal", "NoodleCanal$Command"]
theorem St_up {ad ad' : Nat → Nat} (h : ∀ i, 1000 ≤ i → ad' i = ad i) {A : Nat → Prop} {U : State} {H : Heap} (hS : St ad A U H) : St ad' A U H := by
  have e0 : ∀ i, ad' (2000 + i) = ad (2000 + i) := fun i => h _ (by omega)
  have e1 : ∀ i, ad' (2107 + i) = ad (2107 + i) := fun i => h _ (by omega)
  have e2 : ∀ i, ad' (2200 + i) = ad (2200 + i) := fun i => h _ (by omega)
  have e3 : ∀ i, ad' (2300 + i) = ad (2300 + i) := fun i => h _ (by omega)
  have f0 : adO ad' = adO ad := funext e0
  have f1 : adV ad' = adV ad := funext e1
  have f2 : (fun i => ad' (2200 + i)) = (fun i => ad (2200 + i)) := funext e2
  have f3 : (fun i => ad' (2300 + i)) = (fun i => ad (2300 + i)) := funext e3
  unfold St StE StX StR at *
  rw [f0, f1, f2, f3]
  obtain ⟨hE, hX, hR1, hR2⟩ := hS
  exact ⟨hE, hX, fun q hq => by rw [e2]; exact hR1 q hq, hR2⟩
def PreC (D : va_G) (A : Nat → Prop) (tc : Nat → ClassId) (ad : Nat → Nat) (ct : Nat → va_E) (n : Nat) (U : State) : Prop :=
  va_P D vwCl (Wg ad ct n) U.heap ∧ va_D A (Wg ad ct n) ∧ (∀ q, U.heap.size ≤ q → A q) ∧ va_K D vwCl (tysN tc) U ∧ St ad A U U.heap ∧ ∀ C ∈ aoN, va_AO C U
def rmC (d mc ms : Nat) : Room := { frames := d, cells := mc, slots := ms, locals := 40 * d }
/-- what a constructor owes: own cell k0, x cells more behind it, their contents F -/
def QC (D : va_G) (A : Nat → Prop) (tc : Nat → ClassId) (ad : Nat → Nat) (ct : Nat → va_E) (k0 x : Nat) (F : (Nat → ClassId) → (Nat → Nat) → Nat → Nat → va_E) : Array Value → State → Outcome → State → Prop :=
  va_Qv (S := (Nat → Nat) × (Nat → va_E)) (fun u => (∀ i, i ≤ k0 ∨ 1000 ≤ i → u.1 i = ad i) ∧ (∀ i, i < k0 → u.2 i = ct i) ∧ ∀ r, r ≤ x → u.2 (k0 + r) = F tc u.1 k0 r) (fun u t => va_P D vwCl (Wg u.1 u.2 (k0 + 1 + x)) t.heap ∧ va_D A (Wg u.1 u.2 (k0 + 1 + x))) A
def MC (y : MethodName) (bytes : ByteArray) (maxL d mc ms x : Nat) (fr : va_E) (F : (Nat → ClassId) → (Nat → Nat) → Nat → Nat → va_E) : Prop :=
  ∀ (l : Launch) (D : va_G) (tc : Nat → ClassId) (A : Nat → Prop) (ad : Nat → Nat) (ct : Nat → va_E) (k0 sz : Nat), ct k0 = fr → k0 + x < 999 → Met l y (Cond.code y bytes maxL none :: TS) (rmC d mc ms) (va_Pc [.ref (ad k0)] (fun U => U.heap.size = sz ∧ PreC D A tc ad ct (k0 + 1) U)) (QC D A tc ad ct k0 x F) mc ms A
def Ec (p : Program) (s : State) (m : MethodId) (args : Array Value) (meth : Method) (c : Code) (D : va_G) (A : Nat → Prop) (tc : Nat → ClassId) (ad0 : Nat → Nat) (own : String) (cc : ByteArray) (nL : Nat) : Prop :=
  p.tables.exec = Jvm.exec ∧ c.code = cc ∧ c.maxLocals = nL ∧ s.vm.findClass own = some m.cls ∧ (∀ w ∈ TS, w.before args s = true) ∧ va_K D vwCl (tysN tc) s ∧ (∀ q, s.heap.size ≤ q → A q) ∧ St ad0 A s s.heap ∧ meth.locks = false ∧ (∀ C ∈ aoN, va_AO C s) ∧ meth.name = "<init>"
def Wc (p : Program) (l : Launch) (e : Env) (R : Room) (s : State) (m : MethodId) (args : Array Value) (below : List Frame) (meth : Method) (c : Code) (cells slots : Nat) (Q : State → Prop) (D : va_G) (A : Nat → Prop) (nL : Nat) (ad : Nat → Nat) (ct : Nat → va_E) (n pc : Nat) (L : List (Nat × Value)) (st : List Value) : Prop :=
  ∀ (H : Heap) (locs : List Loc) (ls : Array Slot), va_P D vwCl (Wg ad ct n) H → va_D A (Wg ad ct n) → va_S A s.heap H locs → lv_has ls nL L → W p l e R s m args below meth c H locs cells slots Q (F0 m pc ls st)
section RG
variable {p : Program} {l : Launch} {e : Env} {R : Room} {s : State} {m : MethodId} {args : Array Value} {below : List Frame} {meth : Method} {c : Code} {cells slots : Nat} {Q : State → Prop} {D : va_G} {A : Nat → Prop} {tc : Nat → ClassId} {ad0 ad : Nat → Nat} {ct : Nat → va_E} {n nL : Nat} {own : String} {cc : ByteArray} {pc : Nat} {L : List (Nat × Value)} {st : List Value}
theorem rc_iconst (E : Ec p s m args meth c D A tc ad0 own cc nL) {z : Int} {v : Int32} (d : decode cc pc = .ok (.iconst z, 1)) (hv : Int32.ofInt z = v) (kk : Wc p l e R s m args below meth c cells slots Q D A nL ad ct n (pc + 1) L (.int v :: st)) : Wc p l e R s m args below meth c cells slots Q D A nL ad ct n pc L st := fun H locs ls hP hD hS h => lv_iconst E.1 E.2.1 d hv (kk H locs ls hP hD hS h)
theorem rc_bipush (E : Ec p s m args meth c D A tc ad0 own cc nL) {z : Int} {v : Int32} (d : decode cc pc = .ok (.bipush z, 2)) (hv : (Int8.ofInt z).toInt32 = v) (kk : Wc p l e R s m args below meth c cells slots Q D A nL ad ct n (pc + 2) L (.int v :: st)) : Wc p l e R s m args below meth c cells slots Q D A nL ad ct n pc L st := fun H locs ls hP hD hS h => lv_bipush E.1 E.2.1 d hv (kk H locs ls hP hD hS h)
theorem rc_sipush (E : Ec p s m args meth c D A tc ad0 own cc nL) {z : Int} {v : Int32} (d : decode cc pc = .ok (.sipush z, 3)) (hv : (Int16.ofInt z).toInt32 = v) (kk : Wc p l e R s m args below meth c cells slots Q D A nL ad ct n (pc + 3) L (.int v :: st)) : Wc p l e R s m args below meth c cells slots Q D A nL ad ct n pc L st := fun H locs ls hP hD hS h => lv_sipush E.1 E.2.1 d hv (kk H locs ls hP hD hS h)
theorem rc_aload_n (E : Ec p s m args meth c D A tc ad0 own cc nL) {k : Fin 4} {i x : Nat} (d : decode cc pc = .ok (.aload_n k, 1)) (hi : (k : Nat) = i) (q : Nat) (hl : L[q]? = some (i, .ref x)) (kk : Wc p l e R s m args below meth c cells slots Q D A nL ad ct n (pc + 1) L (.ref x :: st)) : Wc p l e R s m args below meth c cells slots Q D A nL ad ct n pc L st := fun H locs ls hP hD hS h => lv_aload_n E.1 E.2.1 d hi (lv_at h q hl) (kk H locs ls hP hD hS h)
theorem rc_iload_n (E : Ec p s m args meth c D A tc ad0 own cc nL) {k : Fin 4} {i : Nat} {x : Int32} (d : decode cc pc = .ok (.iload_n k, 1)) (hi : (k : Nat) = i) (q : Nat) (hl : L[q]? = some (i, .int x)) (kk : Wc p l e R s m args below meth c cells slots Q D A nL ad ct n (pc + 1) L (.int x :: st)) : Wc p l e R s m args below meth c cells slots Q D A nL ad ct n pc L st := fun H locs ls hP hD hS h => lv_iload_n E.1 E.2.1 d hi (lv_at h q hl) (kk H locs ls hP hD hS h)
theorem rc_dup (E : Ec p s m args meth c D A tc ad0 own cc nL) {va : Value} (d : decode cc pc = .ok (.dup, 1)) (hva : va.category = 1) (kk : Wc p l e R s m args below meth c cells slots Q D A nL ad ct n (pc + 1) L (va :: va :: st)) : Wc p l e R s m args below meth c cells slots Q D A nL ad ct n pc L (va :: st) := fun H locs ls hP hD hS h => lv_dup E.1 E.2.1 d hva (kk H locs ls hP hD hS h)
theorem rc_istore_n (E : Ec p s m args meth c D A tc ad0 own cc nL) {k : Fin 4} {i : Nat} {x : Int32} {L' : List (Nat × Value)} (d : decode cc pc = .ok (.istore_n k, 1)) (hi : (k : Nat) = i) (hn : i < nL) (hl : (i, Value.int x) :: L.filter (fun q => !(q.1 == i) && !(q.1 + 1 == i && q.2.category == 2)) = L') (kk : Wc p l e R s m args below meth c cells slots Q D A nL ad ct n (pc + 1) L' st) : Wc p l e R s m args below meth c cells slots Q D A nL ad ct n pc L (.int x :: st) := fun H locs ls hP hD hS h => lv_istore_n E.1 E.2.1 d hi h hn hl (fun ls' h' => kk H locs ls' hP hD hS h')
theorem rc_iinc (E : Ec p s m args meth c D A tc ad0 own cc nL) {i : Nat} {x v : Int32} {z : Int} {L' : List (Nat × Value)} (d : decode cc pc = .ok (.iinc i z, 3)) (q : Nat) (hq : L[q]? = some (i, .int x)) (hv : x + Int32.ofInt z = v) (hn : i < nL) (hl : (i, Value.int v) :: L.filter (fun q => !(q.1 == i) && !(q.1 + 1 == i && q.2.category == 2)) = L') (kk : Wc p l e R s m args below meth c cells slots Q D A nL ad ct n (pc + 3) L' st) : Wc p l e R s m args below meth c cells slots Q D A nL ad ct n pc L st := fun H locs ls hP hD hS h => lv_iinc E.1 E.2.1 d h hq hv hn hl (fun ls' h' => kk H locs ls' hP hD hS h')
theorem rc_goto (E : Ec p s m args meth c D A tc ad0 own cc nL) {off : Int} {tgt : Nat} (d : decode cc pc = .ok (.goto off, 3)) (ht : (pc : Int) + off = (tgt : Int)) (kk : Wc p l e R s m args below meth c cells slots Q D A nL ad ct n tgt L st) : Wc p l e R s m args below meth c cells slots Q D A nL ad ct n pc L st := fun H locs ls hP hD hS h => lv_goto E.1 E.2.1 d ht (kk H locs ls hP hD hS h)
theorem rc_icmp_ge (E : Ec p s m args meth c D A tc ad0 own cc nL) {x y : Int32} {off : Int} {tgt : Nat} (d : decode cc pc = .ok (.if_icmp .ge off, 3)) (ht : (pc : Int) + off = (tgt : Int)) (kt : y ≤ x → Wc p l e R s m args below meth c cells slots Q D A nL ad ct n tgt L st) (kf : ¬ y ≤ x → Wc p l e R s m args below meth c cells slots Q D A nL ad ct n (pc + 3) L st) : Wc p l e R s m args below meth c cells slots Q D A nL ad ct n pc L (.int y :: .int x :: st) := fun H locs ls hP hD hS h => lv_icmp_ge E.1 E.2.1 d ht (fun q => kt q H locs ls hP hD hS h) (fun q => kf q H locs ls hP hD hS h)
theorem jn_obj : Cond.instanceMethod Lib.objectInit ∈ TS := TS_of (tin_1 _ (List.mem_of_getElem? (i := 37) (by decide +kernel))) (by decide +kernel)
theorem jc_obj : Cond.code Lib.objectInit ⟨#[0xb1]⟩ 1 none ∈ TS := TS_of (tin_1 _ (List.mem_of_getElem? (i := 38) (by decide +kernel))) (by decide +kernel)
theorem rc_obj (E : Ec p s m args meth c D A tc ad0 own cc nL) {x idx : Nat} (hl : Cond.methodLink own idx Lib.objectInit ∈ TS) (hR : 1 ≤ R.frames ∧ 40 ≤ R.locals) (d : decode cc pc = .ok (.invokespecial idx, 3)) (kk : Wc p l e R s m args below meth c cells slots Q D A nL ad ct n (pc + 3) L []) : Wc p l e R s m args below meth c cells slots Q D A nL ad ct n pc L [.ref x] := fun H locs ls hP hD hS h => W.objInit E.1 E.2.1 E.2.2.2.1 (E.2.2.2.2.1 _ hl) (E.2.2.2.2.1 _ jn_obj) (E.2.2.2.2.1 _ jc_obj) rfl (h.1.trans E.2.2.1.symm) rfl d hR.1 (by have := hR.2; show 2 * 0 + 0 + 12 ≤ R.locals; omega) (W.eq (g2 := F0 m (pc + 3) ls []) rfl (kk H locs ls hP hD hS h))
theorem wg_of {k a : Nat} {x : va_E} (hk : k < n) (ha : ad k = a) (h : ct k = x) : (Wg ad ct n)[k]? = some (a, x) := by rw [Wg_at hk, ha, h]
theorem wg_set {k a : Nat} {x : va_E} (hk : k < n) (ha : ad k = a) : (Wg ad ct n).set k (a, x) = Wg ad (put ct k x) n := by subst ha; exact Wg_set hk x
theorem rc_put (E : Ec p s m args meth c D A tc ad0 own cc nL) {k ci j N idx a : Nat} {C ref : String} {T : u_T} {fs : List Value} {ty : FieldType} {v : Value} (hk : k < n) (ha : ad k = a) (hc : ct k = .inr (ci, fs)) (hcl : vwCl[ci]? = some (C, T, N)) (hin : ∀ w ∈ u_ws C T N, w ∈ TS) (ty0 : Nat → FieldType) (hty : ∀ k, k < N → parseFieldDescriptor (T k).2.2.1 = some (ty0 k)) (hnm : ∀ a, a < N → ∀ b, b < N → a ≠ b → (T a).2.1 ≠ (T b).2.1) (hj : j < N) (hl : Cond.fieldLink own idx ref (T j).2.1 (T j).2.2.1 ∈ TS) (href : (T j).1 = ref) (hfin : (T j).2.2.2 = false) (hd : parseFieldDescriptor (T j).2.2.1 = some ty) (hn : narrow ty v = v) (hfit : fits ty v = true) (hlen : j < fs.length) (d : decode cc pc = .ok (.putfield idx, 3)) (kk : ∀ ct' : Nat → va_E, ct' k = .inr (ci, fs.set j v) → (∀ i, i ≠ k → ct' i = ct i) → Wc p l e R s m args below meth c cells slots Q D A nL ad ct' n (pc + 3) L st) : Wc p l e R s m args below meth c cells slots Q D A nL ad ct n pc L (v :: .ref a :: st) := fun H locs ls hP hD hS h => va_put (D := D) (ci := ci) E.1 E.2.1 E.2.2.2.2.1 hin ty0 hty hnm E.2.2.2.1 E.2.2.2.2.2.1 hP hD hS k (wg_of hk ha hc) hcl j hj (E.2.2.2.2.1 _ hl) (fun _ q => href ▸ q) hfin hd hn hfit hlen d (fun H1 locs1 hP1 hD1 hS1 => kk _ (put_s _ _ _) (fun i hi => put_n hi) H1 locs1 ls (by rw [wg_set hk ha] at hP1; exact hP1) (by rw [wg_set hk ha] at hD1; exact hD1) hS1 h)
theorem rc_putF (E : Ec p s m args meth c D A tc ad0 own cc nL) {k ci j N idx a : Nat} {C ref : String} {T : u_T} {fs : List Value} {ty : FieldType} {v : Value} (hk : k < n) (ha : ad k = a) (hc : ct k = .inr (ci, fs)) (hcl : vwCl[ci]? = some (C, T, N)) (hin : ∀ w ∈ u_ws C T N, w ∈ TS) (ty0 : Nat → FieldType) (hty : ∀ k, k < N → parseFieldDescriptor (T k).2.2.1 = some (ty0 k)) (hnm : ∀ a, a < N → ∀ b, b < N → a ≠ b → (T a).2.1 ≠ (T b).2.1) (hj : j < N) (hl : Cond.fieldLink own idx ref (T j).2.1 (T j).2.2.1 ∈ TS) (href : (T j).1 = ref) (hfin : (T j).2.2.2 = true) (hdecl : (T j).1 = own) (hd : parseFieldDescriptor (T j).2.2.1 = some ty) (hn : narrow ty v = v) (hfit : fits ty v = true) (hlen : j < fs.length) (d : decode cc pc = .ok (.putfield idx, 3)) (kk : ∀ ct' : Nat → va_E, ct' k = .inr (ci, fs.set j v) → (∀ i, i ≠ k → ct' i = ct i) → Wc p l e R s m args below meth c cells slots Q D A nL ad ct' n (pc + 3) L st) : Wc p l e R s m args below meth c cells slots Q D A nL ad ct n pc L (v :: .ref a :: st) := fun H locs ls hP hD hS h => va_putF (D := D) (ci := ci) E.1 E.2.1 E.2.2.2.2.1 hin ty0 hty hnm E.2.2.2.1 E.2.2.2.2.2.1 hP hD hS k (wg_of hk ha hc) hcl j hj (E.2.2.2.2.1 _ hl) (fun _ q => href ▸ q) hfin E.2.2.2.2.2.2.2.2.2.2 hdecl hd hn hfit hlen d (fun H1 locs1 hP1 hD1 hS1 => kk _ (put_s _ _ _) (fun i hi => put_n hi) H1 locs1 ls (by rw [wg_set hk ha] at hP1; exact hP1) (by rw [wg_set hk ha] at hD1; exact hD1) hS1 h)
theorem rc_get (E : Ec p s m args meth c D A tc ad0 own cc nL) {k ci j N idx a : Nat} {C ref : String} {T : u_T} {fs : List Value} {v : Value} (hk : k < n) (ha : ad k = a) (hc : ct k = .inr (ci, fs)) (hcl : vwCl[ci]? = some (C, T, N)) (hin : ∀ w ∈ u_ws C T N, w ∈ TS) (hj : j < N) (hl : Cond.fieldLink own idx ref (T j).2.1 (T j).2.2.1 ∈ TS) (href : (T j).1 = ref) (hv : fs[j]? = some v) (d : decode cc pc = .ok (.getfield idx, 3)) (kk : Wc p l e R s m args below meth c cells slots Q D A nL ad ct n (pc + 3) L (v :: st)) : Wc p l e R s m args below meth c cells slots Q D A nL ad ct n pc L (.ref a :: st) := fun H locs ls hP hD hS h => va_get (D := D) (ci := ci) E.1 E.2.1 E.2.2.2.2.1 hin E.2.2.2.1 E.2.2.2.2.2.1 hP k (wg_of hk ha hc) hcl j hj (E.2.2.2.2.1 _ hl) (fun _ q => href ▸ q) hv d (kk H locs ls hP hD hS h)
theorem rc_new (E : Ec p s m args meth c D A tc ad0 own cc nL) {ci N idx : Nat} {C : String} {T : u_T} {fs : List Value} (hcl : vwCl[ci]? = some (C, T, N)) (hin : ∀ w ∈ u_ws C T N, w ∈ TS) (ty : Nat → FieldType) (hty : ∀ k, k < N → parseFieldDescriptor (T k).2.2.1 = some (ty k)) (hl : Cond.classLink own idx C ∈ TS) (hi : Cond.instantiable C N ∈ TS) (hini : Cond.initialized C ∈ TS) (hfs : ∀ j, j < N → defaultValue (ty j) = vp_V fs j) (hcs : cells + 1 ≤ R.cells ∧ slots + N ≤ R.slots) (d : decode cc pc = .ok (.new idx, 3)) (kk : ∀ (q : Nat) (ad' : Nat → Nat) (ct' : Nat → va_E), ad' n = q → (∀ i, i ≠ n → ad' i = ad i) → ct' n = .inr (ci, fs) → (∀ i, i ≠ n → ct' i = ct i) → Wc p l e R s m args below meth c (cells + 1) (slots + N) Q D A nL ad' ct' (n + 1) (pc + 3) L (.ref q :: st)) : Wc p l e R s m args below meth c cells slots Q D A nL ad ct n pc L st := fun H locs ls hP hD hS h => va_new (ci := ci) (fs := fs) E.1 E.2.1 E.2.2.2.2.1 hin ty hty E.2.2.2.1 (E.2.2.2.2.1 _ hl) (E.2.2.2.2.1 _ hi) (E.2.2.2.2.1 _ hini) E.2.2.2.2.2.1 hP hD hS E.2.2.2.2.2.2.1 hcl hfs hcs.1 hcs.2 d (fun q H1 hP1 hD1 hS1 => kk q _ _ (put_s _ _ _) (fun i hi => put_n hi) (put_s _ _ _) (fun i hi => put_n hi) H1 locs ls (by rw [Wg_push] at hP1; exact hP1) (by rw [Wg_push] at hD1; exact hD1) hS1 h)
theorem tc_eq {cl : List vw_C} {tys : List (ClassId × FieldType)} {cA cB : ClassId} {ty : FieldType} (hK : va_K D cl (tys ++ [(cA, ty)]) s) {t : Nat} (ht : tys[t]? = some (cB, ty)) : cA = cB := by
  have h1 := (hK.2 tys.length (cA, ty) (by rw [List.getElem?_append_right (Nat.le_refl _), Nat.sub_self]; rfl)).2
  have h2 := (hK.2 t (cB, ty) (by rw [List.getElem?_append_left (List.getElem?_eq_some_iff.mp ht).1]; exact ht)).2
  cases ty with
  | object C =>
    obtain ⟨-, -, -, -, -, e1⟩ := h1
    obtain ⟨-, -, -, -, -, e2⟩ := h2
    exact Option.some.inj (e1.symm.trans e2)
  | _ => exact Option.some.inj (Eq.trans (Eq.symm h1) h2)
theorem jr_int : Cond.arrayClass (newarray.typeOf .int) ∈ TS := TS_of (tin_1 _ (List.mem_of_getElem? (i := 158) (by decide +kernel))) (by decide +kernel)
theorem rc_newa_int (E : Ec p s m args meth c D A tc ad0 own cc nL) {z : Int32} {N' : Nat} (hn : ¬ z < 0) (hN : z.toNatClampNeg = N') (hby : N' * 8 ≤ 536870912) (hcs : cells + 1 ≤ R.cells ∧ slots + N' ≤ R.slots) (d : decode cc pc = .ok (.newarray .int, 2)) (kk : ∀ (q : Nat) (ad' : Nat → Nat) (ct' : Nat → va_E), ad' n = q → (∀ i, i ≠ n → ad' i = ad i) → ct' n = .inl (tc 1, N', .inl (fun _ => 0)) → (∀ i, i ≠ n → ct' i = ct i) → Wc p l e R s m args below meth c (cells + 1) (slots + N') Q D A nL ad' ct' (n + 1) (pc + 2) L (.ref q :: st)) : Wc p l e R s m args below meth c cells slots Q D A nL ad ct n pc L (.int z :: st) := fun H locs ls hP hD hS h => va_newa (atype := .int) (ty := .int) (a0 := (N', .inl (fun _ => 0))) E.1 E.2.1 (E.2.2.2.2.1 _ jr_int) rfl E.2.2.2.2.2.1 hP hD hS E.2.2.2.2.2.2.1 (fun cA => rfl) hn hN (Nat.le_trans (Nat.mul_le_mul_left _ (by decide)) hby) hcs.1 hcs.2 d (fun q cA H1 hK1 hP1 hD1 hS1 => by
  have hc := tc_eq (t := 1) hK1 rfl
  subst hc
  exact kk q _ _ (put_s _ _ _) (fun i hi => put_n hi) (put_s _ _ _) (fun i hi => put_n hi) H1 locs ls (by rw [Wg_push] at hP1; exact hP1) (by rw [Wg_push] at hD1; exact hD1) hS1 h)
theorem jr_byte : Cond.arrayClass (newarray.typeOf .byte) ∈ TS := TS_of (tin_1 _ (List.mem_of_getElem? (i := 72) (by decide +kernel))) (by decide +kernel)
theorem rc_newa_byte (E : Ec p s m args meth c D A tc ad0 own cc nL) {z : Int32} {N' : Nat} (hn : ¬ z < 0) (hN : z.toNatClampNeg = N') (hby : N' * 8 ≤ 536870912) (hcs : cells + 1 ≤ R.cells ∧ slots + N' ≤ R.slots) (d : decode cc pc = .ok (.newarray .byte, 2)) (kk : ∀ (q : Nat) (ad' : Nat → Nat) (ct' : Nat → va_E), ad' n = q → (∀ i, i ≠ n → ad' i = ad i) → ct' n = .inl (tc 0, N', .inl (fun _ => 0)) → (∀ i, i ≠ n → ct' i = ct i) → Wc p l e R s m args below meth c (cells + 1) (slots + N') Q D A nL ad' ct' (n + 1) (pc + 2) L (.ref q :: st)) : Wc p l e R s m args below meth c cells slots Q D A nL ad ct n pc L (.int z :: st) := fun H locs ls hP hD hS h => va_newa (atype := .byte) (ty := .byte) (a0 := (N', .inl (fun _ => 0))) E.1 E.2.1 (E.2.2.2.2.1 _ jr_byte) rfl E.2.2.2.2.2.1 hP hD hS E.2.2.2.2.2.2.1 (fun cA => rfl) hn hN (Nat.le_trans (Nat.mul_le_mul_left _ (by decide)) hby) hcs.1 hcs.2 d (fun q cA H1 hK1 hP1 hD1 hS1 => by
  have hc := tc_eq (t := 0) hK1 rfl
  subst hc
  exact kk q _ _ (put_s _ _ _) (fun i hi => put_n hi) (put_s _ _ _) (fun i hi => put_n hi) H1 locs ls (by rw [Wg_push] at hP1; exact hP1) (by rw [Wg_push] at hD1; exact hD1) hS1 h)
theorem rc_newq (E : Ec p s m args meth c D A tc ad0 own cc nL) {z : Int32} {N' idx t : Nat} {C : String} (ht : (tysN tc)[t]? = some (tc t, .object C)) (hao : C ∈ aoN) (hl : Cond.classLink own idx C ∈ TS) (hn : ¬ z < 0) (hN : z.toNatClampNeg = N') (hby : N' * 4 ≤ 536870912) (hcs : cells + 1 ≤ R.cells ∧ slots + N' ≤ R.slots) (d : decode cc pc = .ok (.anewarray idx, 3)) (kk : ∀ (q : Nat) (ad' : Nat → Nat) (ct' : Nat → va_E), ad' n = q → (∀ i, i ≠ n → ad' i = ad i) → ct' n = .inl (tc t, N', .inr (.inr (.inr (.inr (fun _ => none))))) → (∀ i, i ≠ n → ct' i = ct i) → Wc p l e R s m args below meth c (cells + 1) (slots + N') Q D A nL ad' ct' (n + 1) (pc + 3) L (.ref q :: st)) : Wc p l e R s m args below meth c cells slots Q D A nL ad ct n pc L (.int z :: st) := fun H locs ls hP hD hS h => va_newq E.1 E.2.1 E.2.2.2.1 (E.2.2.2.2.1 _ hl) (E.2.2.2.2.2.2.2.2.2.1 _ hao) E.2.2.2.2.2.1 hP hD hS E.2.2.2.2.2.2.1 hn hN hby hcs.1 hcs.2 d (fun q cA H1 hK1 hP1 hD1 hS1 => by
  have hc := tc_eq (t := t) hK1 ht
  subst hc
  exact kk q _ _ (put_s _ _ _) (fun i hi => put_n hi) (put_s _ _ _) (fun i hi => put_n hi) H1 locs ls (by rw [Wg_push] at hP1; exact hP1) (by rw [Wg_push] at hD1; exact hD1) hS1 h)
theorem rc_alen (E : Ec p s m args meth c D A tc ad0 own cc nL) {k t a : Nat} {x : vp_A} {ty : FieldType} {v : Int32} (hk : k < n) (ha : ad k = a) (hc : ct k = .inl (tc t, x)) (ht : (tysN tc)[t]? = some (tc t, ty)) (hv : Int32.ofNat x.1 = v) (d : decode cc pc = .ok (.arraylength, 1)) (kk : Wc p l e R s m args below meth c cells slots Q D A nL ad ct n (pc + 1) L (.int v :: st)) : Wc p l e R s m args below meth c cells slots Q D A nL ad ct n pc L (.ref a :: st) := fun H locs ls hP hD hS h => va_alen E.1 E.2.1 E.2.2.2.2.2.1 hP k t (wg_of hk ha hc) ht hv d (kk H locs ls hP hD hS h)
theorem rc_aast (E : Ec p s m args meth c D A tc ad0 own cc nL) {k t N a kv v ci Nv : Nat} {C : String} {Tv : u_T} {f : Nat → Option Nat} {i : Int32} {fv : List Value} (hk : k < n) (ha : ad k = a) (hc : ct k = .inl (tc t, N, .inr (.inr (.inr (.inr f))))) (ht : (tysN tc)[t]? = some (tc t, .object C)) (hkv : kv < n) (hav : ad kv = v) (hcv : ct kv = .inr (ci, fv)) (hcl : vwCl[ci]? = some (C, Tv, Nv)) (hin : vp_in i N) (d : decode cc pc = .ok (.aastore, 1)) (kk : ∀ ct' : Nat → va_E, ct' k = .inl (tc t, N, .inr (.inr (.inr (.inr (va_up f i.toNatClampNeg (some v)))))) → (∀ i, i ≠ k → ct' i = ct i) → Wc p l e R s m args below meth c cells slots Q D A nL ad ct' n (pc + 1) L st) : Wc p l e R s m args below meth c cells slots Q D A nL ad ct n pc L (.ref v :: .int i :: .ref a :: st) := fun H locs ls hP hD hS h => vb_astq E.1 E.2.1 E.2.2.2.2.2.1 hP hD hS k t (wg_of hk ha hc) ht (va_recv E.2.2.2.2.2.1 hP hcl (wg_of hkv hav hcv)) vb_asgS hin d (fun H1 locs1 hP1 hD1 hS1 => kk _ (put_s _ _ _) (fun i hi => put_n hi) H1 locs1 ls (by rw [wg_set hk ha] at hP1; exact hP1) (by rw [wg_set hk ha] at hD1; exact hD1) hS1 h)
theorem rc_ldcS (E : Ec p s m args meth c D A tc ad0 own cc nL) {idx i : Nat} {tx : String} (hq : (own, idx, i, tx) ∈ srefs) (d : decode cc pc = .ok (.ldc idx, 2)) (kk : Wc p l e R s m args below meth c cells slots Q D A nL ad ct n (pc + 2) L (.ref (ad0 (2200 + i)) :: st)) : Wc p l e R s m args below meth c cells slots Q D A nL ad ct n pc L st := fun H locs ls hP hD hS h => va_ldcS E.1 E.2.1 E.2.2.2.1 (E.2.2.2.2.2.2.2.1.2.2.1 _ hq) d (kk H locs ls hP hD hS h)
theorem rc_gsO (E : Ec p s m args meth c D A tc ad0 own cc nL) {idx i : Nat} {nn : String} (hi : i < nmO.length) (hn : nmO.getD i "" = nn) (hl : Cond.fieldLink own idx "NoodleCanal$OrderState" nn "LNoodleCanal$OrderState;" ∈ TS) (d : decode cc pc = .ok (.getstatic idx, 3)) (kk : Wc p l e R s m args below meth c cells slots Q D A nL ad ct n (pc + 3) L (.ref (ad0 (2000 + i)) :: st)) : Wc p l e R s m args below meth c cells slots Q D A nL ad ct n pc L st := fun H locs ls hP hD hS h => by
  subst hn
  exact va_gets E.1 E.2.1 (E.2.2.2.2.2.2.2.1.1.1.1 _ hi).1 hS E.2.2.2.1 (E.2.2.2.2.1 _ hl) (fun _ q => q) d (kk H locs ls hP hD hS h)
theorem rc_gsV (E : Ec p s m args meth c D A tc ad0 own cc nL) {idx i : Nat} {nn : String} (hi : i < nmV.length) (hn : nmV.getD i "" = nn) (hl : Cond.fieldLink own idx "NoodleCanal$Verb" nn "LNoodleCanal$Verb;" ∈ TS) (d : decode cc pc = .ok (.getstatic idx, 3)) (kk : Wc p l e R s m args below meth c cells slots Q D A nL ad ct n (pc + 3) L (.ref (ad0 (2107 + i)) :: st)) : Wc p l e R s m args below meth c cells slots Q D A nL ad ct n pc L st := fun H locs ls hP hD hS h => by
  subst hn
  exact va_gets E.1 E.2.1 (E.2.2.2.2.2.2.2.1.1.2.1 _ hi).1 hS E.2.2.2.1 (E.2.2.2.2.1 _ hl) (fun _ q => q) d (kk H locs ls hP hD hS h)
theorem prec_blind {sz n : Nat} {av : List Value} {ct : Nat → va_E} : FrameBlind (va_Pc av (fun U => U.heap.size = sz ∧ PreC D A tc ad ct n U)) := fun a U g mk q => by
  obtain ⟨q0, q1, qP, qD, qA, qK, qS, qO⟩ := q
  exact ⟨q0, q1, qP, qD, qA, va_K.moved (u := U) (U := U.calling g mk a) (Vm.Alike.refl U.vm) qK, St.same (u := U) (U := U.calling g mk a) rfl qS, fun C hC => va_AO.moved (Vm.Alike.refl U.vm) (qO C hC)⟩
theorem prec_at (E : Ec p s m args meth c D A tc ad0 own cc nL) {H : Heap} {locs : List Loc} (hup : ∀ i, 1000 ≤ i → ad i = ad0 i) (hP : va_P D vwCl (Wg ad ct n) H) (hD : va_D A (Wg ad ct n)) (hS : va_S A s.heap H locs) {U : State} (hU : U.heap = H) (hW : s.WarmedH U.vm) : U.heap.size = H.size ∧ PreC D A tc ad ct n U := by
  refine ⟨by rw [hU], by rw [hU]; exact hP, hD, by rw [hU]; exact fun q hq => E.2.2.2.2.2.2.1 q (Nat.le_trans hS.1 hq), va_K.moved hW.alike E.2.2.2.2.2.1, St_up hup ?_, fun C hC => va_AO.moved hW.alike (E.2.2.2.2.2.2.2.2.2.1 C hC)⟩
  rw [hU]
  exact ((E.2.2.2.2.2.2.2.1.kept (fun a h1 h2 => hS.2.1 a h1 h2))).warm hW
def CN (y : MethodName) : Prop := Cond.initialized y.cls ∈ TS ∧ Cond.instanceMethod y ∈ TS ∧ y.name = "<init>" ∧ y.cls ≠ "java/lang/invoke/MethodHandle" ∧ y.cls ≠ "java/lang/invoke/VarHandle" ∧ (parseMethodDescriptor y.desc).map (fun d => d.parameters.length) = some 0
theorem rc_init (E : Ec p s m args meth c D A tc ad0 own cc nL) {y : MethodName} {bytes : ByteArray} {maxL d0 mc0 ms0 x idx k0 a : Nat} {fr : va_E} {F : (Nat → ClassId) → (Nat → Nat) → Nat → Nat → va_E} (hup : ∀ i, 1000 ≤ i → ad i = ad0 i) (hM : MC y bytes maxL d0 mc0 ms0 x fr F) (hcd : Cond.code y bytes maxL none ∈ TS) (hy : CN y) (hl : Cond.methodLink own idx y ∈ TS) (hn : n = k0 + 1) (ha : ad k0 = a) (hfr : ct k0 = fr) (hb : k0 + x < 999) (hmx : maxL ≤ 21) (hcat : (st.map fun v => v.category).sum ≤ 8) (hR : d0 + 1 ≤ R.frames ∧ 40 * (d0 + 1) ≤ R.locals) (hcs : cells + mc0 ≤ R.cells ∧ slots + ms0 ≤ R.slots) (d : decode cc pc = .ok (.invokespecial idx, 3)) (kk : ∀ (ad' : Nat → Nat) (ct' : Nat → va_E), (∀ i, i ≤ k0 ∨ 1000 ≤ i → ad' i = ad i) → (∀ i, i < k0 → ct' i = ct i) → (∀ r, r ≤ x → ct' (k0 + r) = F tc ad' k0 r) → Wc p l e R s m args below meth c (cells + mc0) (slots + ms0) Q D A nL ad' ct' (k0 + 1 + x) (pc + 3) L st) : Wc p l e R s m args below meth c cells slots Q D A nL ad ct n pc L (.ref a :: st) := by
  intro H locs ls hP hD hS h
  subst hn; subst ha
  have hG : GoodIn TS (Cond.code y bytes maxL none :: TS) := TS_good fun w hw => (List.mem_cons.mp hw).elim (fun e => e ▸ hcd) id
  refine va_callv (va_runI (As := []) (rest := st) ⟨E.1, E.2.1, E.2.2.1, E.2.2.2.1, E.2.2.2.2.1⟩ (hM l D tc A ad ct k0 H.size hfr hb) (cwI 0 E.2.2.2.2.1 hG rfl rfl rfl (E.2.2.2.2.1 _ hy.1) (E.2.2.2.2.1 _ hl) (E.2.2.2.2.1 _ hy.2.1) hy.2.2.1 ⟨hy.2.2.2.1, hy.2.2.2.2.1, hy.2.2.2.2.2⟩ ⟨hR.1, by show 8 + (maxL + 11) + 40 * d0 ≤ R.locals; omega⟩) ⟨prec_blind, fun U hU hW => ⟨rfl, prec_at E hup hP hD hS hU hW⟩⟩ rfl rfl h.1 rfl (lv_room hcat) d ⟨hcs.1, hcs.2⟩) hS (fun q _ hq => hq) (fun q hq => hq) (fun u t H1 locs1 ht hvm hw hB hz1 hk1 hS1 => ?_)
  exact kk u.1 u.2 hw.1 hw.2.1 hw.2.2 H1 locs1 ls (by rw [← ht]; exact hB.1) hB.2 hS1 h
theorem rc_initN (E : Ec p s m args meth c D A tc ad0 own cc nL) {y : MethodName} {bytes : ByteArray} {maxL d0 mc0 ms0 x idx k0 a : Nat} {fr : va_E} {F : (Nat → ClassId) → (Nat → Nat) → Nat → Nat → va_E} (hup : ∀ i, 1000 ≤ i → ad i = ad0 i) (hM : MC y bytes maxL d0 mc0 ms0 x fr F) (hcd : Cond.code y bytes maxL none ∈ TS) (hy : CN y) {host : String} (hl : va_Nw (.methodLinkNest own idx y host) s) (hn : n = k0 + 1) (ha : ad k0 = a) (hfr : ct k0 = fr) (hb : k0 + x < 999) (hmx : maxL ≤ 21) (hcat : (st.map fun v => v.category).sum ≤ 8) (hR : d0 + 1 ≤ R.frames ∧ 40 * (d0 + 1) ≤ R.locals) (hcs : cells + mc0 ≤ R.cells ∧ slots + ms0 ≤ R.slots) (d : decode cc pc = .ok (.invokespecial idx, 3)) (kk : ∀ (ad' : Nat → Nat) (ct' : Nat → va_E), (∀ i, i ≤ k0 ∨ 1000 ≤ i → ad' i = ad i) → (∀ i, i < k0 → ct' i = ct i) → (∀ r, r ≤ x → ct' (k0 + r) = F tc ad' k0 r) → Wc p l e R s m args below meth c (cells + mc0) (slots + ms0) Q D A nL ad' ct' (k0 + 1 + x) (pc + 3) L st) : Wc p l e R s m args below meth c cells slots Q D A nL ad ct n pc L (.ref a :: st) := by
  intro H locs ls hP hD hS h
  subst hn; subst ha
  have hG : GoodIn TS (Cond.code y bytes maxL none :: TS) := TS_good fun w hw => (List.mem_cons.mp hw).elim (fun e => e ▸ hcd) id
  refine va_callv (va_runIN (As := []) (rest := st) ⟨E.1, E.2.1, E.2.2.1, E.2.2.2.1, E.2.2.2.2.1⟩ (hM l D tc A ad ct k0 H.size hfr hb) ⟨va_cnB 0 E.2.2.2.2.1 hG rfl rfl rfl hl (E.2.2.2.2.1 _ hy.1) ⟨hy.2.2.2.1, hy.2.2.2.2.1, hy.2.2.2.2.2⟩ ⟨hR.1, by show 8 + (maxL + 11) + 40 * d0 ≤ R.locals; omega⟩, hy.2.2.1, E.2.2.2.2.1 _ hy.2.1⟩ ⟨prec_blind, fun U hU hW => ⟨rfl, prec_at E hup hP hD hS hU hW⟩⟩ rfl rfl h.1 rfl (lv_room hcat) d ⟨hcs.1, hcs.2⟩) hS (fun q _ hq => hq) (fun q hq => hq) (fun u t H1 locs1 ht hvm hw hB hz1 hk1 hS1 => ?_)
  exact kk u.1 u.2 hw.1 hw.2.1 hw.2.2 H1 locs1 ls (by rw [← ht]; exact hB.1) hB.2 hS1 h
theorem arrV_congr {t : ClassId} {N : Nat} {f g : Nat → Value} (h : ∀ j, j < N → f j = g j) : arrV t N f = arrV t N g := by
  unfold arrV
  congr 2
  funext j
  exact h j.1 j.2
theorem va_P.arr {cl : List vw_C} {H : Heap} {ka N : Nat} {t : ClassId} {f g : Nat → Option Nat} (hc : ct ka = .inl (t, N, .inr (.inr (.inr (.inr f))))) (h : ∀ j, j < N → f j = g j) (hP : va_P D cl (Wg ad ct n) H) : va_P D cl (Wg ad (put ct ka (.inl (t, N, .inr (.inr (.inr (.inr g)))))) n) H := by
  intro k q hk
  obtain ⟨hl, rfl⟩ := Wg_inv hk
  by_cases hx : k = ka
  · subst hx
    rw [put_s]
    have q := hP k _ (Wg_at hl)
    rw [hc] at q
    have q' : H[ad k]? = some (arrV t N (fun j => va_rf (f j))) := q
    show H[ad k]? = some (arrV t N (fun j => va_rf (g j)))
    rw [q', arrV_congr (fun j hj => by rw [h j hj])]
  · rw [put_n hx]
    exact hP k _ (Wg_at hl)
theorem va_D.arr {ka : Nat} {x : va_E} (hD : va_D A (Wg ad ct n)) : va_D A (Wg ad (put ct ka x) n) := by
  refine ⟨fun i j p q hp hq hx => ?_, fun k q hk => ?_⟩
  · obtain ⟨h1, rfl⟩ := Wg_inv hp
    obtain ⟨h2, rfl⟩ := Wg_inv hq
    exact hD.1 i j _ _ (Wg_at h1) (Wg_at h2) hx
  · obtain ⟨h1, rfl⟩ := Wg_inv hk
    exact hD.2 k (ad k, ct k) (Wg_at h1)
theorem rc_arr {ka N : Nat} {t : ClassId} {f : Nat → Option Nat} (g : Nat → Option Nat) (hc : ct ka = .inl (t, N, .inr (.inr (.inr (.inr f))))) (h : ∀ j, j < N → f j = g j) (kk : ∀ ct' : Nat → va_E, ct' ka = .inl (t, N, .inr (.inr (.inr (.inr g)))) → (∀ i, i ≠ ka → ct' i = ct i) → Wc p l e R s m args below meth c cells slots Q D A nL ad ct' n pc L st) : Wc p l e R s m args below meth c cells slots Q D A nL ad ct n pc L st := fun H locs ls hP hD hS hl => kk _ (put_s _ _ _) (fun i hi => put_n hi) H locs ls (hP.arr hc h) hD.arr hS hl
/-- for (i < N) arr[i] = new C(): the array at ka, the new ones from nb on -/
theorem rc_loop (E : Ec p s m args meth c D A tc ad0 own cc nL) (nest : Bool) {p0 gi ni ii ka nb N t ci Nv cT jF Nt d0 mc0 ms0 xv mv a0 aA : Nat} {C CT ref : String} {Tv TT : u_T} {fv fsT : List Value} {y : MethodName} {bv : ByteArray} {Fv : (Nat → ClassId) → (Nat → Nat) → Nat → Nat → va_E} {host : String} {N32 : Int32}
    (e0 : decode cc p0 = .ok (.iload_n 1, 1)) (e1 : decode cc (p0 + 1) = .ok (.aload_n 0, 1)) (e2 : decode cc (p0 + 2) = .ok (.getfield gi, 3)) (e5 : decode cc (p0 + 5) = .ok (.arraylength, 1)) (e6 : decode cc (p0 + 6) = .ok (.if_icmp .ge 22, 3)) (e9 : decode cc (p0 + 9) = .ok (.aload_n 0, 1)) (e10 : decode cc (p0 + 10) = .ok (.getfield gi, 3)) (e13 : decode cc (p0 + 13) = .ok (.iload_n 1, 1)) (e14 : decode cc (p0 + 14) = .ok (.new ni, 3)) (e17 : decode cc (p0 + 17) = .ok (.dup, 1)) (e18 : decode cc (p0 + 18) = .ok (.invokespecial ii, 3)) (e21 : decode cc (p0 + 21) = .ok (.aastore, 1)) (e22 : decode cc (p0 + 22) = .ok (.iinc 1 1, 3)) (e25 : decode cc (p0 + 25) = .ok (.goto (-25), 3))
    (hM : MC y bv mv d0 mc0 ms0 xv (.inr (ci, fv)) Fv) (hF : ∀ ad ad' b r, r ≤ xv → (∀ k, (b ≤ k ∧ k ≤ b + xv) ∨ 1000 ≤ k → ad' k = ad k) → Fv tc ad' b r = Fv tc ad b r) (hF0 : ∀ ad b, ∃ w, Fv tc ad b 0 = .inr (ci, w))
    (hcd : Cond.code y bv mv none ∈ TS) (hy : CN y) (hl : Cond.methodLink own ii y ∈ TS ∨ va_Nw (.methodLinkNest own ii y host) s) (hmx : mv ≤ 21)
    (hclT : vwCl[cT]? = some (CT, TT, Nt)) (hinT : ∀ w ∈ u_ws CT TT Nt, w ∈ TS) (hj : jF < Nt) (hlg : Cond.fieldLink own gi ref (TT jF).2.1 (TT jF).2.2.1 ∈ TS) (href : (TT jF).1 = ref) (hvA : fsT[jF]? = some (.ref aA))
    (hclV : vwCl[ci]? = some (C, Tv, Nv)) (hinV : ∀ w ∈ u_ws C Tv Nv, w ∈ TS) (tyV : Nat → FieldType) (htyV : ∀ k, k < Nv → parseFieldDescriptor (Tv k).2.2.1 = some (tyV k)) (hfv : ∀ j, j < Nv → defaultValue (tyV j) = vp_V fv j) (hln : Cond.classLink own ni C ∈ TS) (hi : Cond.instantiable C Nv ∈ TS) (hini : Cond.initialized C ∈ TS)
    (ht : (tysN tc)[t]? = some (tc t, .object C)) (hn2 : 1 < nL) (hN : Int32.ofNat N = N32) (hN2 : N < 100)
    {k0 cells0 slots0 : Nat} {adB : Nat → Nat} {ctB : Nat → va_E} (hk : k0 < nb) (hka : ka < nb) (hne : k0 ≠ ka) (hbnd : nb + (xv + 1) * N ≤ 999) (hA0 : adB k0 = a0) (hAA : adB ka = aA) (hT : ctB k0 = .inr (cT, fsT)) (hup : ∀ i, 1000 ≤ i → adB i = ad0 i)
    (hR : d0 + 1 ≤ R.frames ∧ 40 * (d0 + 1) ≤ R.locals) (hcs : cells0 + N * (1 + mc0) ≤ R.cells ∧ slots0 + N * (Nv + ms0) ≤ R.slots)
    (kEnd : ∀ (ad : Nat → Nat) (ct : Nat → va_E), (∀ k, k < nb ∨ 1000 ≤ k → ad k = adB k) → (∀ k, k < nb → k ≠ ka → ct k = ctB k) → ct ka = .inl (tc t, N, .inr (.inr (.inr (.inr (tr N (fun j => ad (nb + (xv + 1) * j))))))) → (∀ j, j < N → ∀ r, r ≤ xv → ct (nb + (xv + 1) * j + r) = Fv tc ad (nb + (xv + 1) * j) r) → Wc p l e R s m args below meth c (cells0 + N * (1 + mc0)) (slots0 + N * (Nv + ms0)) Q D A nL ad ct (nb + (xv + 1) * N) (p0 + 28) [(1, .int N32), (0, .ref a0)] []) :
    ∀ (z i : Nat), i + z = N → ∀ (ad : Nat → Nat) (ct : Nat → va_E), (∀ k, k < nb ∨ 1000 ≤ k → ad k = adB k) → (∀ k, k < nb → k ≠ ka → ct k = ctB k) → (∃ f, ct ka = .inl (tc t, N, .inr (.inr (.inr (.inr f)))) ∧ ∀ j, j < i → f j = some (ad (nb + (xv + 1) * j))) → (∀ j, j < i → ∀ r, r ≤ xv → ct (nb + (xv + 1) * j + r) = Fv tc ad (nb + (xv + 1) * j) r) → Wc p l e R s m args below meth c (cells0 + i * (1 + mc0)) (slots0 + i * (Nv + ms0)) Q D A nL ad ct (nb + (xv + 1) * i) p0 [(1, .int (nI i)), (0, .ref a0)] [] := by
  intro z
  induction z with
  | zero =>
    intro i hiN ad ct h1 h2 h3 h4
    have hiN : i = N := by omega
    subst hiN
    obtain ⟨f, h3, h5⟩ := h3
    refine rc_iload_n E e0 rfl 0 rfl ?_
    refine rc_aload_n E e1 rfl 1 rfl ?_
    refine rc_get (k := k0) E (by omega) ((h1 _ (Or.inl hk)).trans hA0) ((h2 _ hk hne).trans hT) hclT hinT hj hlg href hvA e2 ?_
    refine rc_alen (k := ka) E (by omega) ((h1 _ (Or.inl hka)).trans hAA) h3 ht hN e5 ?_
    refine rc_icmp_ge (tgt := p0 + 28) E e6 (by omega) (fun _ => ?_) (fun q => absurd (show N32 ≤ nI i by rw [← hN]; exact Int32.le_refl _) q)
    have hNe : nI i = N32 := hN
    rw [hNe]
    exact rc_arr (tr i (fun j => ad (nb + (xv + 1) * j))) h3 (fun j hj => (h5 j hj).trans (if_pos hj).symm) (fun ct' g1 g2 => kEnd ad ct' h1 (fun k q1 q2 => (g2 k q2).trans (h2 k q1 q2)) g1 (fun j hj r hr => (g2 _ (by omega)).trans (h4 j hj r hr)))
  | succ z ih =>
    intro i hiN ad ct h1 h2 h3 h4
    obtain ⟨f, h3, h5⟩ := h3
    have hs : (xv + 1) * (i + 1) = (xv + 1) * i + (xv + 1) := Nat.mul_succ _ _
    have hle : (xv + 1) * (i + 1) ≤ (xv + 1) * N := Nat.mul_le_mul_left _ (by omega)
    refine rc_iload_n E e0 rfl 0 rfl ?_
    refine rc_aload_n E e1 rfl 1 rfl ?_
    refine rc_get (k := k0) E (by omega) ((h1 _ (Or.inl hk)).trans hA0) ((h2 _ hk hne).trans hT) hclT hinT hj hlg href hvA e2 ?_
    refine rc_alen (k := ka) E (by omega) ((h1 _ (Or.inl hka)).trans hAA) h3 ht hN e5 ?_
    have hlt : ¬ N32 ≤ nI i := by
      rw [← hN]
      intro q
      have q2 := (Int32.ofNat_le_ofNat (by omega) (by omega)).mp (show Int32.ofNat N ≤ Int32.ofNat i from q)
      omega
    refine rc_icmp_ge (tgt := p0 + 28) E e6 (by omega) (fun q => absurd q hlt) (fun _ => ?_)
    refine rc_aload_n E e9 rfl 1 rfl ?_
    refine rc_get (k := k0) E (by omega) ((h1 _ (Or.inl hk)).trans hA0) ((h2 _ hk hne).trans hT) hclT hinT hj hlg href hvA e10 ?_
    refine rc_iload_n E e13 rfl 0 rfl ?_
    have hm : (i + 1) * (1 + mc0) ≤ N * (1 + mc0) := Nat.mul_le_mul_right _ (by omega)
    have hm2 : (i + 1) * (Nv + ms0) ≤ N * (Nv + ms0) := Nat.mul_le_mul_right _ (by omega)
    have hm3 : (i + 1) * (1 + mc0) = i * (1 + mc0) + (1 + mc0) := Nat.succ_mul _ _
    have hm4 : (i + 1) * (Nv + ms0) = i * (Nv + ms0) + (Nv + ms0) := Nat.succ_mul _ _
    refine rc_new E hclV hinV tyV htyV hln hi hini hfv ⟨by omega, by omega⟩ e14 (fun q ad1 ct1 g1 g2 g3 g4 => ?_)
    refine rc_dup E e17 rfl ?_
    have fin : ∀ (ad2 : Nat → Nat) (ct2 : Nat → va_E), (∀ k, k ≤ nb + (xv + 1) * i ∨ 1000 ≤ k → ad2 k = ad1 k) → (∀ k, k < nb + (xv + 1) * i → ct2 k = ct1 k) → (∀ r, r ≤ xv → ct2 (nb + (xv + 1) * i + r) = Fv tc ad2 (nb + (xv + 1) * i) r) → Wc p l e R s m args below meth c (cells0 + i * (1 + mc0) + 1 + mc0) (slots0 + i * (Nv + ms0) + Nv + ms0) Q D A nL ad2 ct2 (nb + (xv + 1) * i + 1 + xv) (p0 + 18 + 3) [(1, .int (nI i)), (0, .ref a0)] [.ref q, .int (nI i), .ref aA] := by
      intro ad2 ct2 u1 u2 u3
      obtain ⟨w, hw⟩ := hF0 ad2 (nb + (xv + 1) * i)
      have b1 : ∀ k, k < nb + (xv + 1) * i ∨ 1000 ≤ k → ad2 k = ad k := fun k hk => (u1 k (by omega)).trans (g2 k (by omega))
      have b2 : ∀ k, k < nb + (xv + 1) * i → ct2 k = ct k := fun k hk => (u2 k hk).trans (g4 k (by omega))
      refine rc_aast (k := ka) (kv := nb + (xv + 1) * i) E (by omega) ((b1 ka (by omega)).trans ((h1 _ (Or.inl hka)).trans hAA)) ((b2 ka (by omega)).trans h3) ht (by omega) ((u1 _ (by omega)).trans g1) ((u3 0 (by omega)).trans hw) hclV (nI_in (by omega) (by omega)) e21 (fun ct3 v1 v2 => ?_)
      refine rc_iinc (L' := [(1, .int (nI (i + 1))), (0, .ref a0)]) E e22 0 rfl (by rw [show Int32.ofInt 1 = 1 from rfl]; exact (nI_succ i).symm) hn2 rfl ?_
      refine rc_goto (tgt := p0) E e25 (by omega) ?_
      have hih := ih (i + 1) (by omega) ad2 ct3 (fun k hk => (b1 k (by omega)).trans (h1 k hk)) (fun k q1 q2 => (v2 k q2).trans ((b2 k (by omega)).trans (h2 k q1 q2))) ⟨_, v1, fun j hj => by
        rw [nI_clamp (by omega)]
        by_cases hji : j = i
        · subst hji
          rw [va_up_self, u1 _ (by omega), g1]
        · have hjl : (xv + 1) * (j + 1) ≤ (xv + 1) * i := Nat.mul_le_mul_left _ (by omega)
          have hjs : (xv + 1) * (j + 1) = (xv + 1) * j + (xv + 1) := Nat.mul_succ _ _
          show (if j = i then _ else f j) = _
          rw [if_neg hji, h5 j (by omega), b1 _ (by omega)]⟩ (fun j hj r hr => by
        rw [v2 _ (by omega)]
        by_cases hji : j = i
        · subst hji
          exact u3 r hr
        · have hjl : (xv + 1) * (j + 1) ≤ (xv + 1) * i := Nat.mul_le_mul_left _ (by omega)
          have hjs : (xv + 1) * (j + 1) = (xv + 1) * j + (xv + 1) := Nat.mul_succ _ _
          rw [b2 _ (by omega), h4 j (by omega) r hr]
          exact (hF ad ad2 _ r hr (fun k hk => b1 k (by omega))).symm)
      rw [hs, hm3, hm4] at hih
      have e1' : nb + ((xv + 1) * i + (xv + 1)) = nb + (xv + 1) * i + 1 + xv := by omega
      have e2' : cells0 + (i * (1 + mc0) + (1 + mc0)) = cells0 + i * (1 + mc0) + 1 + mc0 := by omega
      have e3' : slots0 + (i * (Nv + ms0) + (Nv + ms0)) = slots0 + i * (Nv + ms0) + Nv + ms0 := by omega
      rw [e1', e2', e3'] at hih
      exact hih
    have hup1 : ∀ k, 1000 ≤ k → ad1 k = ad0 k := fun k hk => (g2 k (by omega)).trans ((h1 k (Or.inr hk)).trans (hup k hk))
    rcases hl with hl | hl
    · exact rc_init (k0 := nb + (xv + 1) * i) E hup1 hM hcd hy hl rfl g1 g3 (by omega) hmx (Nat.le_of_ble_eq_true rfl) hR ⟨by omega, by omega⟩ e18 fin
    · exact rc_initN (k0 := nb + (xv + 1) * i) E hup1 hM hcd hy hl rfl g1 g3 (by omega) hmx (Nat.le_of_ble_eq_true rfl) hR ⟨by omega, by omega⟩ e18 fin
end RG
theorem MC_of {y : MethodName} {bytes : ByteArray} {maxL d mc ms x : Nat} {fr : va_E} {F : (Nat → ClassId) → (Nat → Nat) → Nat → Nat → va_E} (own : String) (hown : y.cls = own) (hy : plainName y.cls = true) (hin : y.name = "<init>") (hlen : 1 ≤ maxL)
    (body : ∀ (p : Program) (l : Launch) (e : Env) (s : State) (m : MethodId) (below : List Frame) (meth : Method) (c : Code) (D : va_G) (tc : Nat → ClassId) (A : Nat → Prop) (ad : Nat → Nat) (ct : Nat → va_E) (k0 : Nat), ct k0 = fr → k0 + x < 999 → Ec p s m [Value.ref (ad k0)].toArray meth c D A tc ad own bytes maxL → meth.sig.returnType = none → Wc p l e (rmC d mc ms) s m [Value.ref (ad k0)].toArray below meth c 0 0 (MQ below (QC D A tc ad ct k0 x F) [Value.ref (ad k0)].toArray s mc ms A) D A maxL ad ct (k0 + 1) 0 [(0, .ref (ad k0))] []) : MC y bytes maxL d mc ms x fr F := by
  intro l D tc A ad ct k0 sz hfr hb
  refine Met.ofW (cc := bytes) (maxL := maxL) (ret := none) hy rfl ?_
  intro p e s m args below meth c s₁ B hml hv
  obtain ⟨rfl, hsz, hP, hD, hA, hK, hS, hO⟩ := hv
  subst hsz
  have hts := atoms_spec (ws := Cond.code y bytes maxL none :: TS) B.pre
  have hts : ∀ w ∈ TS, w.before [Value.ref (ad k0)].toArray s = true := fun w h => hts w (List.mem_cons_of_mem _ h)
  have ho : s.vm.findClass own = some m.cls := by rw [← hown]; exact findClass_of_methodNamed B.named
  have hl := lv_entry [Value.ref (ad k0)] (n := maxL) hlen
  rw [lg_entry_eq]
  generalize (lg_sl [Value.ref (ad k0)] ++ List.replicate (maxL - (lg_sl [Value.ref (ad k0)]).length) Slot.unset).toArray = ls at hl ⊢
  exact body p l e s m below meth c D tc A ad ct k0 hfr hb ⟨B.exec, B.bytes, hml, ho, hts, hK, hA, hS, B.notSynchronized, hO, (name_of_methodNamed B.named B.method).1.trans hin⟩ B.returns s.heap [] ls hP hD va_S.rf hl
theorem rc_vret {p : Program} {l : Launch} {e : Env} {R : Room} {s : State} {m : MethodId} {args : Array Value} {below : List Frame} {meth : Method} {c : Code} {cells slots mc ms : Nat} {D : va_G} {A : Nat → Prop} {tc : Nat → ClassId} {ad0 ad ad9 : Nat → Nat} {ct ct0 : Nat → va_E} {k0 x n nL : Nat} {own : String} {cc : ByteArray} {pc : Nat} {L : List (Nat × Value)} {F : (Nat → ClassId) → (Nat → Nat) → Nat → Nat → va_E} (E : Ec p s m args meth c D A tc ad0 own cc nL) (hr : meth.sig.returnType = none) (hn : n = k0 + 1 + x) (h1 : ∀ i, i ≤ k0 ∨ 1000 ≤ i → ad i = ad9 i) (h2 : ∀ i, i < k0 → ct i = ct0 i) (h3 : ∀ r, r ≤ x → ct (k0 + r) = F tc ad k0 r) (hmc : cells ≤ mc ∧ slots ≤ ms) (d : decode cc pc = .ok (.return_, 1)) : Wc p l e R s m args below meth c cells slots (MQ below (QC D A tc ad9 ct0 k0 x F) args s mc ms A) D A nL ad ct n pc L [] := fun H locs ls hP hD hS h => by
  subst hn
  exact W.widen hmc.1 hmc.2 (W.vret E.1 E.2.1 hr (fun t ht _ => ⟨⟨(ad, ct), rfl, ⟨h1, h2, h3⟩, by show va_P D vwCl _ t.heap; rw [ht]; exact hP, hD⟩, hS.F ht⟩) hS.2.2 d E.2.2.2.2.2.2.2.2.1)
