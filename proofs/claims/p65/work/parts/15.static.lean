theorem sr_X12_55 : (RX12, 55, 13, "canal 6;lock 1 3;bridge 3 4;lock 4 2;barge 0 3 10 6;barge 2 5 4 2;order 2 2 3 20;order 5 1 1 30;order 1 3 2 15;") ∈ srefs := List.mem_of_getElem? (i := 0) (by decide +kernel)
theorem sr_X12_368 : (RX12, 368, 15, "no such section") ∈ srefs := List.mem_of_getElem? (i := 1) (by decide +kernel)
theorem sr_X12_385 : (RX12, 385, 16, "no such place") ∈ srefs := List.mem_of_getElem? (i := 2) (by decide +kernel)
theorem sr_X12_390 : (RX12, 390, 17, "no such barge") ∈ srefs := List.mem_of_getElem? (i := 3) (by decide +kernel)
theorem sr_X12_395 : (RX12, 395, 18, "no such order") ∈ srefs := List.mem_of_getElem? (i := 4) (by decide +kernel)
theorem sr_X12_399 : (RX12, 399, 14, "not that many bytes in the buffer") ∈ srefs := List.mem_of_getElem? (i := 5) (by decide +kernel)
theorem sr_X12_402 : (RX12, 402, 19, "out of range") ∈ srefs := List.mem_of_getElem? (i := 6) (by decide +kernel)
theorem sr_X12_406 : (RX12, 406, 20, "not possible now") ∈ srefs := List.mem_of_getElem? (i := 7) (by decide +kernel)
theorem sr_X3_9 : (RX3, 9, 9, "canal") ∈ srefs := List.mem_of_getElem? (i := 8) (by decide +kernel)
theorem sr_X3_42 : (RX3, 42, 10, "lock") ∈ srefs := List.mem_of_getElem? (i := 9) (by decide +kernel)
theorem sr_X3_51 : (RX3, 51, 11, "bridge") ∈ srefs := List.mem_of_getElem? (i := 10) (by decide +kernel)
theorem sr_X3_86 : (RX3, 86, 12, "barge") ∈ srefs := List.mem_of_getElem? (i := 11) (by decide +kernel)
theorem sr_X3_98 : (RX3, 98, 1, "order") ∈ srefs := List.mem_of_getElem? (i := 12) (by decide +kernel)
theorem sr_L_196 : (RL, 196, 0, "canal ") ∈ srefs := List.mem_of_getElem? (i := 13) (by decide +kernel)
theorem sr_L_208 : (RL, 208, 2, "lock ") ∈ srefs := List.mem_of_getElem? (i := 14) (by decide +kernel)
theorem sr_L_213 : (RL, 213, 3, "bridge ") ∈ srefs := List.mem_of_getElem? (i := 15) (by decide +kernel)
theorem sr_L_215 : (RL, 215, 4, "barge ") ∈ srefs := List.mem_of_getElem? (i := 16) (by decide +kernel)
theorem sr_L_217 : (RL, 217, 5, "order ") ∈ srefs := List.mem_of_getElem? (i := 17) (by decide +kernel)
section RC
variable {p : Program} {l : Launch} {e : Env} {R : Room} {s : State} {m : MethodId} {args : Array Value} {below : List Frame} {meth : Method} {c : Code} {cells slots : Nat} {Q : State → Prop} {D : va_G} {tc : Nat → ClassId} {ad : Nat → Nat} {nL : Nat} {own : String} {cc : ByteArray} {M : Nat → Nat → Int32} {pc : Nat} {L : List (Nat × Value)} {st : List Value}
theorem ra_ldcS (E : Ev p s m args meth c D tc ad own cc nL) {idx i : Nat} {tx : String} (hq : (own, idx, i, tx) ∈ srefs) (d : decode cc pc = .ok (.ldc idx, 2)) (kk : Wa p l e R s m args below meth c cells slots Q D tc ad nL M (pc + 2) L (.ref (ad (2200 + i)) :: st)) : Wa p l e R s m args below meth c cells slots Q D tc ad nL M pc L st := fun H locs ls hP hS h => va_ldcS E.1 E.2.1 E.2.2.2.1 (E.2.2.2.2.2.2.2.1.2.2.1 _ hq) d (kk H locs ls hP hS h)
theorem rl_ldcw {T : State} {locs : List Loc} (X : Stand p l e R s m args below meth c T locs cells slots) (hexec : p.tables.exec = Jvm.exec) {own text : String} {index : Nat} {a : Addr} (hown : s.vm.findClass own = some m.cls)
    (hconst : (Cond.stringRef own index text).before args s = true) (hev : (Term.string own index).eval args s none [] s = some (.ref a)) {g : JFrame} (hg : g.method = m) (hdg : decode c.code g.pc = .ok (.ldc_w index, 3)) :
    ∀ target, Steps p.tables e below (T.setTop { g with pc := g.pc + 3, stack := .ref a :: g.stack }) target → Steps p.tables e below (T.setTop g) target := by
  obtain ⟨k, cf, i, a', hk, hcf, hcp, -, hr, hev'⟩ := Cond.stringRef_spec hown hconst
  cases hev.symm.trans hev'
  obtain ⟨k', hk', he⟩ := X.warmed.alike.2.2 _ _ hk
  have hr' : k'.resolved[index]? = some (some (.string a)) := by
    rcases X.warmed.entry hk hk' index with h | ⟨h, -⟩
    · rw [h]; exact hr
    · rw [hr] at h; cases h
  intro target hrest
  subst hg
  jvm_step X.here [hexec, hdg, ldc_w.wp_string (e := e) (s := T) (f := g) X.here.top hk' (by rw [he]; exact hcf) hcp hr']
  exact hrest
theorem ra_ldcSw (E : Ev p s m args meth c D tc ad own cc nL) {idx i : Nat} {tx : String} (hq : (own, idx, i, tx) ∈ srefs) (d : decode cc pc = .ok (.ldc_w idx, 3)) (kk : Wa p l e R s m args below meth c cells slots Q D tc ad nL M (pc + 3) L (.ref (ad (2200 + i)) :: st)) : Wa p l e R s m args below meth c cells slots Q D tc ad nL M pc L st := fun H locs ls hP hS h T hT X => by
  obtain ⟨t, a1, b1⟩ := kk H locs ls hP hS h T hT X
  have hz := E.2.2.2.2.2.2.2.1.2.2.1 _ hq
  exact ⟨t, rl_ldcw X E.1 E.2.2.2.1 (text := tx) hz.1 hz.2 (g := F0 m pc ls st) rfl (by rw [E.2.1]; exact d) t a1, b1⟩
theorem nI_vp {x : Int32} {n : Nat} (g : vp_in x n) (hn : n < 2 ^ 31) : nI x.toNatClampNeg = x := by obtain ⟨j, h1, rfl⟩ := vp_in_of g hn; rw [nI_clamp (by omega)]
theorem gf_sval (E : Ev p s m args meth c D tc ad own cc nL) {i idx : Nat} (g : i < nS) (hl : Cond.fieldLink own idx "java/lang/String" "value" "[B" ∈ TS) (d : decode cc pc = .ok (.getfield idx, 3)) (kk : Wa p l e R s m args below meth c cells slots Q D tc ad nL M (pc + 3) L (.ref (ad (2300 + i)) :: st)) : Wa p l e R s m args below meth c cells slots Q D tc ad nL M pc L (.ref (ad (2200 + i)) :: st) := fun H locs ls hP hS h => vk_getf E.1 E.2.1 (tx_at E.2.2.2.2.2.2.2.1.2.1.1 g).2.2.1 hS E.2.2.2.1 (E.2.2.2.2.1 _ hl) (fun _ q => q) d (kk H locs ls hP hS h)
theorem gf_scod (E : Ev p s m args meth c D tc ad own cc nL) {i idx : Nat} (g : i < nS) (hl : Cond.fieldLink own idx "java/lang/String" "coder" "B" ∈ TS) (d : decode cc pc = .ok (.getfield idx, 3)) (kk : Wa p l e R s m args below meth c cells slots Q D tc ad nL M (pc + 3) L (.int 0 :: st)) : Wa p l e R s m args below meth c cells slots Q D tc ad nL M pc L (.ref (ad (2200 + i)) :: st) := fun H locs ls hP hS h => vk_getf E.1 E.2.1 (tx_at E.2.2.2.2.2.2.2.1.2.1.1 g).2.1 hS E.2.2.2.1 (E.2.2.2.2.1 _ hl) (fun _ q => q) d (kk H locs ls hP hS h)
theorem al_sval (E : Ev p s m args meth c D tc ad own cc nL) {i : Nat} (g : i < nS) (d : decode cc pc = .ok (.arraylength, 1)) (kk : Wa p l e R s m args below meth c cells slots Q D tc ad nL M (pc + 1) L (.int (nI (lenS.getD i 0)) :: st)) : Wa p l e R s m args below meth c cells slots Q D tc ad nL M pc L (.ref (ad (2300 + i)) :: st) := fun H locs ls hP hS h => va_tlen E.1 E.2.1 (tx_at E.2.2.2.2.2.2.2.1.2.1.1 g).2.2.2 hS rfl d (kk H locs ls hP hS h)
theorem ba_sval (E : Ev p s m args meth c D tc ad own cc nL) {i : Nat} {x : Int32} (g : i < nS) (g2 : vp_in x (lenS.getD i 0)) (d : decode cc pc = .ok (.baload, 1)) (kk : Wa p l e R s m args below meth c cells slots Q D tc ad nL M (pc + 1) L (.int ((bytS.getD i []).getD x.toNatClampNeg 0) :: st)) : Wa p l e R s m args below meth c cells slots Q D tc ad nL M pc L (.int x :: .ref (ad (2300 + i)) :: st) := fun H locs ls hP hS h => va_tb E.1 E.2.1 (tx_at E.2.2.2.2.2.2.2.1.2.1.1 g).2.2.2 hS g2 rfl d (kk H locs ls hP hS h)
theorem gs_comp (E : Ev p s m args meth c D tc ad own cc nL) {idx : Nat} (hl : Cond.fieldLink own idx "java/lang/String" "COMPACT_STRINGS" "Z" ∈ TS) (d : decode cc pc = .ok (.getstatic idx, 3)) (kk : Wa p l e R s m args below meth c cells slots Q D tc ad nL M (pc + 3) L (.int 1 :: st)) : Wa p l e R s m args below meth c cells slots Q D tc ad nL M pc L st := fun H locs ls hP hS h => va_gets E.1 E.2.1 E.2.2.2.2.2.2.2.1.2.1.2.1 hS E.2.2.2.1 (E.2.2.2.2.1 _ hl) (fun _ q => q) d (kk H locs ls hP hS h)
theorem gs_siob (E : Ev p s m args meth c D tc ad own cc nL) {idx : Nat} (hl : Cond.fieldLink own idx "jdk/internal/util/Preconditions" "SIOOBE_FORMATTER" "Ljava/util/function/BiFunction;" ∈ TS) (d : decode cc pc = .ok (.getstatic idx, 3)) (kk : ∀ v, (v = .null ∨ ∃ a, v = .ref a) → Wa p l e R s m args below meth c cells slots Q D tc ad nL M (pc + 3) L (v :: st)) : Wa p l e R s m args below meth c cells slots Q D tc ad nL M pc L st := fun H locs ls hP hS h => by
  rcases E.2.2.2.2.2.2.2.1.2.1.2.2 with hZ | ⟨t, hZ⟩
  · exact va_gets E.1 E.2.1 hZ hS E.2.2.2.1 (E.2.2.2.2.1 _ hl) (fun _ q => q) d (kk _ (Or.inl rfl) H locs ls hP hS h)
  · exact va_gets E.1 E.2.1 hZ hS E.2.2.2.1 (E.2.2.2.2.1 _ hl) (fun _ q => q) d (kk _ (Or.inr ⟨t, rfl⟩) H locs ls hP hS h)
theorem ra_callIR (E : Ev p s m args meth c D tc ad own cc nL) {C : String} {b : Nat} {y : MethodName} {bytes : ByteArray} {maxL n idx d0 : Nat} {ret : Option FieldType} {As rest stk : List Value} {K : Int32 → (Nat → Nat → Int32) → Prop} (hM : MI y bytes maxL ret d0 ad (.ref b :: As) M K) (hq : Lim y.cls ≤ Lim own) (cv : CV C y bytes maxL ret n) (hl : Cond.methodLink own idx y ∈ TS) (hmx : maxL ≤ 21) (hrv : ∀ (H : Heap) (locs : List Loc), va_S (A0 ad s.heap.size) s.heap H locs → ∃ cell : Cell, H[b]? = some cell ∧ cell.vm.isStatics = false ∧ s.vm.findClass C = some cell.cls) (hn : As.length = n) (hst : stk = As.reverse ++ .ref b :: rest) (hcat : (rest.map fun v => v.category).sum ≤ 8) (hR : d0 + 1 ≤ R.frames ∧ 40 * (d0 + 1) ≤ R.locals) (hcs : cells ≤ R.cells ∧ slots ≤ R.slots) (d : decode cc pc = .ok (.invokevirtual idx, 3)) (kk : ∀ r M', K r M' → Wa p l e R s m args below meth c cells slots Q D tc ad nL M' (pc + 3) L (.int r :: rest)) : Wa p l e R s m args below meth c cells slots Q D tc ad nL M pc L stk := by
  intro H locs ls hP hS h
  subst hst
  have hlks := GT_V (own := own) cv hl
  obtain ⟨-, -, -, -, c1, c2, c3, c4⟩ := cv
  refine va_calli (va_runV (As := As) (rest := rest) (C := C) ⟨E.1, E.2.1, E.2.2.1, E.2.2.2.1, E.2.2.2.2.1⟩ (hM (Nat.le_trans hq E.2.2.2.2.2.2.2.2.2) l D tc H.size) (cwV n E.2.2.2.2.1 hlks rfl rfl rfl ⟨c1, c2, c3, c4⟩ ⟨hR.1, by show 8 + (maxL + 11) + 40 * d0 ≤ R.locals; omega⟩) ⟨pre_blind, hrv H locs hS, fun U hU hW => ⟨rfl, pre_at E hP hS hU hW⟩⟩ rfl hn h.1 rfl (lv_room hcat) d ⟨hcs.1, hcs.2⟩) hS (fun q _ hq => A0_mono hS.1 q hq) (fun q hq => A0_mono hS.1 q hq) (fun r u t H1 locs1 ht hvm hw hB hz1 hk1 hS1 => ?_)
  exact kk r u hw H1 locs1 ls (by rw [← ht]; exact hB) hS1 h
theorem ra_callVR (E : Ev p s m args meth c D tc ad own cc nL) {C : String} {b : Nat} {y : MethodName} {bytes : ByteArray} {maxL n idx d0 : Nat}  {As rest stk : List Value} {K : (Nat → Nat → Int32) → Prop} (hM : MV y bytes maxL d0 ad (.ref b :: As) M K) (hq : Lim y.cls ≤ Lim own) (cv : CV C y bytes maxL none n) (hl : Cond.methodLink own idx y ∈ TS) (hmx : maxL ≤ 21) (hrv : ∀ (H : Heap) (locs : List Loc), va_S (A0 ad s.heap.size) s.heap H locs → ∃ cell : Cell, H[b]? = some cell ∧ cell.vm.isStatics = false ∧ s.vm.findClass C = some cell.cls) (hn : As.length = n) (hst : stk = As.reverse ++ .ref b :: rest) (hcat : (rest.map fun v => v.category).sum ≤ 8) (hR : d0 + 1 ≤ R.frames ∧ 40 * (d0 + 1) ≤ R.locals) (hcs : cells ≤ R.cells ∧ slots ≤ R.slots) (d : decode cc pc = .ok (.invokevirtual idx, 3)) (kk : ∀ M', K M' → Wa p l e R s m args below meth c cells slots Q D tc ad nL M' (pc + 3) L rest) : Wa p l e R s m args below meth c cells slots Q D tc ad nL M pc L stk := by
  intro H locs ls hP hS h
  subst hst
  have hlks := GT_V (own := own) cv hl
  obtain ⟨-, -, -, -, c1, c2, c3, c4⟩ := cv
  refine va_callv (va_runV (As := As) (rest := rest) (C := C) ⟨E.1, E.2.1, E.2.2.1, E.2.2.2.1, E.2.2.2.2.1⟩ (hM (Nat.le_trans hq E.2.2.2.2.2.2.2.2.2) l D tc H.size) (cwV n E.2.2.2.2.1 hlks rfl rfl rfl ⟨c1, c2, c3, c4⟩ ⟨hR.1, by show 8 + (maxL + 11) + 40 * d0 ≤ R.locals; omega⟩) ⟨pre_blind, hrv H locs hS, fun U hU hW => ⟨rfl, pre_at E hP hS hU hW⟩⟩ rfl hn h.1 rfl (lv_room hcat) d ⟨hcs.1, hcs.2⟩) hS (fun q _ hq => A0_mono hS.1 q hq) (fun q hq => A0_mono hS.1 q hq) (fun u t H1 locs1 ht hvm hw hB hz1 hk1 hS1 => ?_)
  exact kk u hw H1 locs1 ls (by rw [← ht]; exact hB) hS1 h
theorem rv_str (E : Ev p s m args meth c D tc ad own cc nL) {i : Nat} (g : i < nS) (H : Heap) (locs : List Loc) (hS : va_S (A0 ad s.heap.size) s.heap H locs) : ∃ cell : Cell, H[ad (2200 + i)]? = some cell ∧ cell.vm.isStatics = false ∧ s.vm.findClass RJ0 = some cell.cls := vk_recv (adK := fun _ => ad (2200 + i)) (adV := fun _ => ad (2300 + i)) (i := 0) (E.2.2.2.2.2.2.2.1.2.1.1 i g) Nat.zero_lt_one hS
theorem ra_null (E : Ev p s m args meth c D tc ad own cc nL) (d : decode cc pc = .ok (.aconst_null, 1)) (kk : Wa p l e R s m args below meth c cells slots Q D tc ad nL M (pc + 1) L (.null :: st)) : Wa p l e R s m args below meth c cells slots Q D tc ad nL M pc L st := fun H locs ls hP hS h => lv_null E.1 E.2.1 d (kk H locs ls hP hS h)
theorem ra_ifnonnull (E : Ev p s m args meth c D tc ad own cc nL) {x : Nat} {off : Int} {tgt : Nat} (d : decode cc pc = .ok (.ifnonnull off, 3)) (ht : (pc : Int) + off = (tgt : Int)) (kk : Wa p l e R s m args below meth c cells slots Q D tc ad nL M tgt L st) : Wa p l e R s m args below meth c cells slots Q D tc ad nL M pc L (.ref x :: st) := fun H locs ls hP hS h => lv_ifnonnull E.1 E.2.1 d ht (kk H locs ls hP hS h)
theorem ra_ifnull (E : Ev p s m args meth c D tc ad own cc nL) {x : Nat} {off : Int} (d : decode cc pc = .ok (.ifnull off, 3)) (kk : Wa p l e R s m args below meth c cells slots Q D tc ad nL M (pc + 3) L st) : Wa p l e R s m args below meth c cells slots Q D tc ad nL M pc L (.ref x :: st) := fun H locs ls hP hS h => lv_ifnull E.1 E.2.1 d (kk H locs ls hP hS h)
theorem ra_ifnullN (E : Ev p s m args meth c D tc ad own cc nL) {off : Int} {tgt : Nat} (d : decode cc pc = .ok (.ifnull off, 3)) (ht : (pc : Int) + off = (tgt : Int)) (kk : Wa p l e R s m args below meth c cells slots Q D tc ad nL M tgt L st) : Wa p l e R s m args below meth c cells slots Q D tc ad nL M pc L (.null :: st) := fun H locs ls hP hS h => lv_ifnullN E.1 E.2.1 d ht (kk H locs ls hP hS h)
theorem ra_ifnonnullN (E : Ev p s m args meth c D tc ad own cc nL) {off : Int} (d : decode cc pc = .ok (.ifnonnull off, 3)) (kk : Wa p l e R s m args below meth c cells slots Q D tc ad nL M (pc + 3) L st) : Wa p l e R s m args below meth c cells slots Q D tc ad nL M pc L (.null :: st) := fun H locs ls hP hS h => lv_ifnonnullN E.1 E.2.1 d (kk H locs ls hP hS h)
theorem ra_aload_nN (E : Ev p s m args meth c D tc ad own cc nL) {k : Fin 4} {i : Nat} (d : decode cc pc = .ok (.aload_n k, 1)) (hi : (k : Nat) = i) (q : Nat) (hl : L[q]? = some (i, .null)) (kk : Wa p l e R s m args below meth c cells slots Q D tc ad nL M (pc + 1) L (.null :: st)) : Wa p l e R s m args below meth c cells slots Q D tc ad nL M pc L st := fun H locs ls hP hS h => lv_aload_nN E.1 E.2.1 d hi (lv_at h q hl) (kk H locs ls hP hS h)
theorem ra_aloadN (E : Ev p s m args meth c D tc ad own cc nL) {i : Nat} (d : decode cc pc = .ok (.aload i, 2)) (q : Nat) (hl : L[q]? = some (i, .null)) (kk : Wa p l e R s m args below meth c cells slots Q D tc ad nL M (pc + 2) L (.null :: st)) : Wa p l e R s m args below meth c cells slots Q D tc ad nL M pc L st := fun H locs ls hP hS h => lv_aloadN E.1 E.2.1 d (lv_at h q hl) (kk H locs ls hP hS h)
theorem ra_astore_nN (E : Ev p s m args meth c D tc ad own cc nL) {k : Fin 4} {i : Nat} {L' : List (Nat × Value)} (d : decode cc pc = .ok (.astore_n k, 1)) (hi : (k : Nat) = i) (hn : i < nL) (hl : (i, Value.null) :: L.filter (fun q => !(q.1 == i) && !(q.1 + 1 == i && q.2.category == 2)) = L') (kk : Wa p l e R s m args below meth c cells slots Q D tc ad nL M (pc + 1) L' st) : Wa p l e R s m args below meth c cells slots Q D tc ad nL M pc L (.null :: st) := fun H locs ls hP hS h => lv_astore_nN E.1 E.2.1 d hi h hn hl (fun ls' h' => kk H locs ls' hP hS h')
theorem ra_astoreN (E : Ev p s m args meth c D tc ad own cc nL) {i : Nat} {L' : List (Nat × Value)} (d : decode cc pc = .ok (.astore i, 2)) (hn : i < nL) (hl : (i, Value.null) :: L.filter (fun q => !(q.1 == i) && !(q.1 + 1 == i && q.2.category == 2)) = L') (kk : Wa p l e R s m args below meth c cells slots Q D tc ad nL M (pc + 2) L' st) : Wa p l e R s m args below meth c cells slots Q D tc ad nL M pc L (.null :: st) := fun H locs ls hP hS h => lv_astoreN E.1 E.2.1 d h hn hl (fun ls' h' => kk H locs ls' hP hS h')
def va_QA (K : Option Nat → (Nat → Nat → Int32) → Prop) (D : va_G) (tc : Nat → ClassId) (ad : Nat → Nat) (A : Nat → Prop) : Array Value → State → Outcome → State → Prop := va_Qq (S := Option Nat × (Nat → Nat → Int32)) (fun r u => r = u.1.map ad ∧ K u.1 u.2) (fun u t => EndW D tc ad u.2 t) A
/-- contracts of methods that answer a cell of the world (or an enum's constant) by its number, or null -/
def MA (y : MethodName) (bytes : ByteArray) (maxL : Nat) (ret : Option FieldType) (d : Nat) (ad : Nat → Nat) (av : List Value) (M : Nat → Nat → Int32) (K : Option Nat → (Nat → Nat → Int32) → Prop) : Prop :=
  Lim y.cls ≤ nW ad → ∀ (l : Launch) (D : va_G) (tc : Nat → ClassId) (sz : Nat), Met l y (Cond.code y bytes maxL ret :: TS) (rmD d) (va_Pc av (fun U => U.heap.size = sz ∧ PreW D tc ad M U)) (va_QA K D tc ad (A0 ad sz)) 0 0 (A0 ad sz)
theorem ra_aret (E : Ev p s m args meth c D tc ad own cc nL) {K : Option Nat → (Nat → Nat → Int32) → Prop} {n : String} {o : Option Nat} (hr : meth.sig.returnType = some (.object n)) (d : decode cc pc = .ok (.areturn, 1)) (k : K o M) : Wa p l e R s m args below meth c 0 0 (MQ below (va_QA K D tc ad (A0 ad s.heap.size)) args s 0 0 (A0 ad s.heap.size)) D tc ad nL M pc L [va_rf (o.map ad)] := fun H locs ls hP hS h => W.aret (v := va_rf (o.map ad)) E.1 E.2.1 hr (Or.inl ⟨n, rfl⟩) (va_rf_or _) (fun t ht _ => ⟨⟨_, (o, M), rfl, ⟨rfl, k⟩, by show va_P D vwCl (Wd tc ad M) t.heap; rw [ht]; exact hP⟩, hS.F ht⟩) hS.2.2 d E.2.2.2.2.2.2.2.2.1
theorem MA_of {y : MethodName} {bytes : ByteArray} {maxL d : Nat} {ret : Option FieldType} {ad : Nat → Nat} {av : List Value} {M : Nat → Nat → Int32} {K : Option Nat → (Nat → Nat → Int32) → Prop} (own : String) (hown : y.cls = own) (hy : plainName y.cls = true) (hlen : (lg_sl av).length ≤ maxL)
    (body : ∀ (p : Program) (l : Launch) (e : Env) (s : State) (m : MethodId) (below : List Frame) (meth : Method) (c : Code) (D : va_G) (tc : Nat → ClassId), Ev p s m av.toArray meth c D tc ad own bytes maxL → meth.sig.returnType = ret → Wa p l e (rmD d) s m av.toArray below meth c 0 0 (MQ below (va_QA K D tc ad (A0 ad s.heap.size)) av.toArray s 0 0 (A0 ad s.heap.size)) D tc ad maxL M 0 (lv_args 0 av) []) : MA y bytes maxL ret d ad av M K := by
  intro hlim l D tc sz
  refine Met.ofW (cc := bytes) (maxL := maxL) (ret := ret) hy rfl ?_
  intro p e s m args below meth c s₁ B hml hv
  obtain ⟨rfl, hsz, hP, hK, hI, hS⟩ := hv
  subst hsz
  have hts := atoms_spec (ws := Cond.code y bytes maxL ret :: TS) B.pre
  have hts : ∀ w ∈ TS, w.before av.toArray s = true := fun w h => hts w (List.mem_cons_of_mem _ h)
  have ho : s.vm.findClass own = some m.cls := by rw [← hown]; exact findClass_of_methodNamed B.named
  have hl := lv_entry av (n := maxL) hlen
  rw [lg_entry_eq]
  generalize (lg_sl av ++ List.replicate (maxL - (lg_sl av).length) Slot.unset).toArray = ls at hl ⊢
  exact body p l e s m below meth c D tc ⟨B.exec, B.bytes, hml, ho, hts, hK, hI, hS, B.notSynchronized, by rw [← hown]; exact hlim⟩ B.returns s.heap [] ls hP va_S.rf hl
theorem ra_callAV (E : Ev p s m args meth c D tc ad own cc nL) {C : String} {T : u_T} {N b ci : Nat} {y : MethodName} {bytes : ByteArray} {maxL n idx d0 : Nat} {ret : Option FieldType} {As rest stk : List Value} {K : Option Nat → (Nat → Nat → Int32) → Prop} (hM : MA y bytes maxL ret d0 ad (.ref (ad b) :: As) M K) (hq : Lim y.cls ≤ Lim own) (cv : CV C y bytes maxL ret n) (hl : Cond.methodLink own idx y ∈ TS) (hmx : maxL ≤ 21) (hb : b < Lim own) (hcel : ∀ R, ∃ fs, cel tc ad b R = .inr (ci, fs)) (hcl : vwCl[ci]? = some (C, T, N)) (hn : As.length = n) (hst : stk = As.reverse ++ .ref (ad b) :: rest) (hcat : (rest.map fun v => v.category).sum ≤ 8) (hR : d0 + 1 ≤ R.frames ∧ 40 * (d0 + 1) ≤ R.locals) (hcs : cells ≤ R.cells ∧ slots ≤ R.slots) (d : decode cc pc = .ok (.invokevirtual idx, 3)) (kk : ∀ (o : Option Nat) M', K o M' → Wa p l e R s m args below meth c cells slots Q D tc ad nL M' (pc + 3) L (va_rf (o.map ad) :: rest)) : Wa p l e R s m args below meth c cells slots Q D tc ad nL M pc L stk := by
  intro H locs ls hP hS h
  subst hst
  obtain ⟨fs, hcel⟩ := hcel (M b)
  have hlks := GT_V (own := own) cv hl
  obtain ⟨-, -, -, -, c1, c2, c3, c4⟩ := cv
  refine va_callq (va_runV (As := As) (rest := rest) (C := C) ⟨E.1, E.2.1, E.2.2.1, E.2.2.2.1, E.2.2.2.2.1⟩ (hM (Nat.le_trans hq E.2.2.2.2.2.2.2.2.2) l D tc H.size) (cwV n E.2.2.2.2.1 hlks rfl rfl rfl ⟨c1, c2, c3, c4⟩ ⟨hR.1, by show 8 + (maxL + 11) + 40 * d0 ≤ R.locals; omega⟩) ⟨pre_blind, va_recv E.2.2.2.2.2.1 hP hcl (wd_of (lwE E hb) hcel), fun U hU hW => ⟨rfl, pre_at E hP hS hU hW⟩⟩ rfl hn h.1 rfl (lv_room hcat) d ⟨hcs.1, hcs.2⟩) hS (fun q _ hq => A0_mono hS.1 q hq) (fun q hq => A0_mono hS.1 q hq) (fun r u t H1 locs1 ht hvm hw hB hz1 hk1 hS1 => ?_)
  obtain ⟨o, M1⟩ := u
  obtain ⟨rfl, hw⟩ := hw
  exact kk o M1 hw H1 locs1 ls (by rw [← ht]; exact hB) hS1 h
theorem ra_callAS (E : Ev p s m args meth c D tc ad own cc nL)  {y : MethodName} {bytes : ByteArray} {maxL n idx d0 : Nat} {ret : Option FieldType} {As rest stk : List Value} {K : Option Nat → (Nat → Nat → Int32) → Prop} (hM : MA y bytes maxL ret d0 ad As M K) (hq : Lim y.cls ≤ Lim own) (cv : CT y bytes maxL ret n) (hl : Cond.methodLink own idx y ∈ TS) (hmx : maxL ≤ 21)  (hn : As.length = n) (hst : stk = As.reverse ++ rest) (hcat : (rest.map fun v => v.category).sum ≤ 8) (hR : d0 + 1 ≤ R.frames ∧ 40 * (d0 + 1) ≤ R.locals) (hcs : cells ≤ R.cells ∧ slots ≤ R.slots) (d : decode cc pc = .ok (.invokestatic idx, 3)) (kk : ∀ (o : Option Nat) M', K o M' → Wa p l e R s m args below meth c cells slots Q D tc ad nL M' (pc + 3) L (va_rf (o.map ad) :: rest)) : Wa p l e R s m args below meth c cells slots Q D tc ad nL M pc L stk := by
  intro H locs ls hP hS h
  subst hst
  have hlks := GT_S (own := own) cv hl
  obtain ⟨-, -, -, c2, c3, c4⟩ := cv
  refine va_callq (va_runS (As := As) (rest := rest) ⟨E.1, E.2.1, E.2.2.1, E.2.2.2.1, E.2.2.2.2.1⟩ (hM (Nat.le_trans hq E.2.2.2.2.2.2.2.2.2) l D tc H.size) (va_cwS n E.2.2.2.2.1 hlks rfl rfl rfl ⟨c2, c3, c4⟩ ⟨hR.1, by show 8 + (maxL + 11) + 40 * d0 ≤ R.locals; omega⟩) ⟨pre_blind, fun U hU hW => ⟨rfl, pre_at E hP hS hU hW⟩⟩ rfl hn h.1 rfl (lv_room hcat) d ⟨hcs.1, hcs.2⟩) hS (fun q _ hq => A0_mono hS.1 q hq) (fun q hq => A0_mono hS.1 q hq) (fun r u t H1 locs1 ht hvm hw hB hz1 hk1 hS1 => ?_)
  obtain ⟨o, M1⟩ := u
  obtain ⟨rfl, hw⟩ := hw
  exact kk o M1 hw H1 locs1 ls (by rw [← ht]; exact hB) hS1 h
end RC
