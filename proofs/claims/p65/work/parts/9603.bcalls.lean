/-! p65: the JDK's builder: the kinds of calls -/
section RBC
variable {p : Program} {l : Launch} {e : Env} {R : Room} {s : State} {m : MethodId} {args : Array Value} {below : List Frame} {meth : Method} {c : Code} {cells slots mc ms t1 t2 : Nat} {Q : State → Prop} {D : va_G} {tB : ClassId} {ad : Nat → Nat} {A : Nat → Prop} {nL : Nat} {own : String} {cc : ByteArray} {ws : va_W} {pc : Nat} {L : List (Nat × Value)} {st : List Value}
theorem GTp_V {C : String} {y : MethodName} {bytes : ByteArray} {maxL n idx : Nat} {ret : Option FieldType} (cv : CV C y bytes maxL ret n) (hl : Cond.methodLink own idx y ∈ TS) : GoodIn TSp (wsV own idx C y (Cond.code y bytes maxL ret :: TSp)) := TSp_good fun w hw => by
  obtain ⟨h1, h2, h3, h4, -⟩ := cv
  unfold wsV at hw
  simp only [List.cons_append, List.nil_append, List.mem_cons] at hw
  rcases hw with rfl | rfl | rfl | rfl | rfl | hw
  · exact TSp_r hl
  · exact TSp_r h1
  · exact TSp_r h2
  · exact TSp_r h3
  · exact TSp_r h4
  · exact hw
theorem GTp_S {y : MethodName} {bytes : ByteArray} {maxL n idx : Nat} {ret : Option FieldType} (cv : CT y bytes maxL ret n) (hl : Cond.methodLink own idx y ∈ TS) : GoodIn TSp (va_wsS own idx y (Cond.code y bytes maxL ret :: TSp)) := TSp_good fun w hw => by
  obtain ⟨h1, h2, h3, -⟩ := cv
  unfold va_wsS at hw
  simp only [List.cons_append, List.nil_append, List.mem_cons] at hw
  rcases hw with rfl | rfl | rfl | rfl | hw
  · exact TSp_r hl
  · exact TSp_r h1
  · exact TSp_r h2
  · exact TSp_r h3
  · exact hw
/-- an inherited method of the builder: what the tables say -/
def CU (y : MethodName) (bytes : ByteArray) (maxL : Nat) (ret : Option FieldType) (n : Nat) : Prop := Cond.sameMethod y.cls y.cls y.name y.desc ∈ TS ∧ Cond.selects RJ4 y y ∈ TSp ∧ Cond.instanceMethod y ∈ TS ∧ Cond.initialized y.cls ∈ TS ∧ Cond.code y bytes maxL ret ∈ TS ∧ y.cls ≠ "java/lang/invoke/MethodHandle" ∧ y.cls ≠ "java/lang/invoke/VarHandle" ∧ (parseMethodDescriptor y.desc).map (fun d => d.parameters.length) = some n
theorem GTp_U {y : MethodName} {bytes : ByteArray} {maxL n idx : Nat} {ret : Option FieldType} (cv : CU y bytes maxL ret n) (hl : Cond.methodLink own idx y ∈ TS) : GoodIn TSp (va_wsU own idx RJ4 y.cls y y (Cond.code y bytes maxL ret :: TSp)) := by
  obtain ⟨h1, h2, h3, h4, h5, -⟩ := cv
  exact bw_U (TSp_r hl) (TSp_r h1) h2 (TSp_r h3) (TSp_r h4) (fun w hw => (List.mem_cons.mp hw).elim (fun q => by rw [q]; exact TSp_r h5) id)
abbrev bRun (p : Program) (l : Launch) (e : Env) (R : Room) (s : State) (m : MethodId) (args : Array Value) (below : List Frame) (meth : Method) (c : Code) (cells slots mc ms : Nat) (D : va_G) (A : Nat → Prop) (nL : Nat) (ws : va_W) (pc : Nat) (L : List (Nat × Value)) (stk rest : List Value) (Qa : State → Outcome → State → Prop) : Prop :=
  ∀ (H : Heap) (locs : List Loc) (ls : Array Slot), va_P D clB ws H → va_D A ws → va_S A s.heap H locs → lv_has ls nL L → va_Run p l e R s m args below meth c H locs cells slots mc ms (F0 m pc ls stk) rest Qa A
theorem rn_S (E : Eb p s m args meth c D tB ad t1 t2 A own cc nL) {y : MethodName} {bytes : ByteArray} {maxL n idx d0 : Nat} {ret : Option FieldType} {As rest stk : List Value} {Qc : Array Value → State → Outcome → State → Prop} (hM : Met l y (Cond.code y bytes maxL ret :: TSp) (rmC d0 mc ms) (va_Pc As (PreB D tB ad t1 t2 A ws)) Qc mc ms A) (cv : CT y bytes maxL ret n) (hl : Cond.methodLink own idx y ∈ TS) (hmx : maxL ≤ 21) (hn : As.length = n) (hst : stk = As.reverse ++ rest) (hcat : (rest.map fun v => v.category).sum ≤ 8) (hR : d0 + 1 ≤ R.frames ∧ 40 * (d0 + 1) ≤ R.locals) (hcs : cells + mc ≤ R.cells ∧ slots + ms ≤ R.slots) (d : decode cc pc = .ok (.invokestatic idx, 3)) : bRun p l e R s m args below meth c cells slots mc ms D A nL ws pc L stk rest (Qc As.toArray) := by
  intro H locs ls hP hD hS h
  subst hst
  have hlks := GTp_S (own := own) cv hl
  obtain ⟨-, -, -, c2, c3, c4⟩ := cv
  exact va_runS (As := As) (rest := rest) ⟨E.1, E.2.1, E.2.2.1, E.2.2.2.1, E.2.2.2.2.1⟩ hM (va_cwS n E.2.2.2.2.1 hlks rfl rfl rfl ⟨c2, c3, c4⟩ ⟨hR.1, by show 8 + (maxL + 11) + 40 * d0 ≤ R.locals; omega⟩) ⟨preB_blind, fun U hU hW => ⟨rfl, preB_at E hP hD hS hU hW⟩⟩ rfl hn h.1 rfl (lv_room hcat) d hcs
/-- a method of a text -/
theorem rn_V (E : Eb p s m args meth c D tB ad t1 t2 A own cc nL) {y : MethodName} {bytes : ByteArray} {maxL n idx d0 i : Nat} {ret : Option FieldType} {As rest stk : List Value} {Qc : Array Value → State → Outcome → State → Prop} (hi : i < nS) (hM : Met l y (Cond.code y bytes maxL ret :: TSp) (rmC d0 mc ms) (va_Pc (.ref (ad (2200 + i)) :: As) (PreB D tB ad t1 t2 A ws)) Qc mc ms A) (cv : CV RJ0 y bytes maxL ret n) (hl : Cond.methodLink own idx y ∈ TS) (hmx : maxL ≤ 21) (hn : As.length = n) (hst : stk = As.reverse ++ .ref (ad (2200 + i)) :: rest) (hcat : (rest.map fun v => v.category).sum ≤ 8) (hR : d0 + 1 ≤ R.frames ∧ 40 * (d0 + 1) ≤ R.locals) (hcs : cells + mc ≤ R.cells ∧ slots + ms ≤ R.slots) (d : decode cc pc = .ok (.invokevirtual idx, 3)) : bRun p l e R s m args below meth c cells slots mc ms D A nL ws pc L stk rest (Qc (Value.ref (ad (2200 + i)) :: As).toArray) := by
  intro H locs ls hP hD hS h
  subst hst
  have hlks := GTp_V (own := own) cv hl
  obtain ⟨-, -, -, -, c1, c2, c3, c4⟩ := cv
  exact va_runV (As := As) (rest := rest) (C := RJ0) ⟨E.1, E.2.1, E.2.2.1, E.2.2.2.1, E.2.2.2.2.1⟩ hM (cwV n E.2.2.2.2.1 hlks rfl rfl rfl ⟨c1, c2, c3, c4⟩ ⟨hR.1, by show 8 + (maxL + 11) + 40 * d0 ≤ R.locals; omega⟩) ⟨preB_blind, vk_recv (adK := fun _ => ad (2200 + i)) (adV := fun _ => ad (2300 + i)) (i := 0) (E.2.2.2.2.2.2.1.1.1 i hi) Nat.zero_lt_one hS, fun U hU hW => ⟨rfl, preB_at E hP hD hS hU hW⟩⟩ rfl hn h.1 rfl (lv_room hcat) d hcs
/-- an inherited method, on the builder -/
theorem rn_U (E : Eb p s m args meth c D tB ad t1 t2 A own cc nL) {y : MethodName} {bytes : ByteArray} {maxL n idx d0 b : Nat} {fs : List Value} {ret : Option FieldType} {As rest stk : List Value} {Qc : Array Value → State → Outcome → State → Prop} (he : ws[0]? = some (b, .inr (0, fs))) (hM : Met l y (Cond.code y bytes maxL ret :: TSp) (rmC d0 mc ms) (va_Pc (.ref b :: As) (PreB D tB ad t1 t2 A ws)) Qc mc ms A) (cv : CU y bytes maxL ret n) (hl : Cond.methodLink own idx y ∈ TS) (hmx : maxL ≤ 21) (hn : As.length = n) (hst : stk = As.reverse ++ .ref b :: rest) (hcat : (rest.map fun v => v.category).sum ≤ 8) (hR : d0 + 1 ≤ R.frames ∧ 40 * (d0 + 1) ≤ R.locals) (hcs : cells + mc ≤ R.cells ∧ slots + ms ≤ R.slots) (d : decode cc pc = .ok (.invokevirtual idx, 3)) : bRun p l e R s m args below meth c cells slots mc ms D A nL ws pc L stk rest (Qc (Value.ref b :: As).toArray) := by
  intro H locs ls hP hD hS h
  subst hst
  have hlks := GTp_U (own := own) cv hl
  obtain ⟨-, -, -, -, -, c2, c3, c4⟩ := cv
  exact va_runU (As := As) (rest := rest) (C := RJ4) (owner := y.cls) ⟨E.1, E.2.1, E.2.2.1, E.2.2.2.1, E.2.2.2.2.1⟩ hM (va_cwU n E.2.2.2.2.1 hlks rfl rfl rfl rfl ⟨c2, c3, c4⟩ ⟨hR.1, by show 8 + (maxL + 11) + 40 * d0 ≤ R.locals; omega⟩) ⟨preB_blind, va_recv E.2.2.2.2.2.1 hP (q := (RJ4, TJ4, 4)) rfl he, fun U hU hW => ⟨rfl, preB_at E hP hD hS hU hW⟩⟩ rfl hn h.1 rfl (lv_room hcat) d hcs
/-- a method of the builder's own class (its reference may name the superclass's): x is named, y runs -/
theorem rn_O (E : Eb p s m args meth c D tB ad t1 t2 A own cc nL) {x y : MethodName} {bytes b0 : ByteArray} {maxL n idx d0 b m0 : Nat} {fs : List Value} {ret r0 : Option FieldType} {As rest stk : List Value} {Qc : Array Value → State → Outcome → State → Prop} (he : ws[0]? = some (b, .inr (0, fs))) (hM : Met l y (Cond.code y bytes maxL ret :: TSp) (rmC d0 mc ms) (va_Pc (.ref b :: As) (PreB D tB ad t1 t2 A ws)) Qc mc ms A) (hlks : GoodIn TSp (va_wsO own idx RJ4 x.cls x y (Cond.code y bytes maxL ret :: TSp))) (hx : Cond.code ⟨x.cls, x.name, x.desc⟩ b0 m0 r0 ∈ TSp) (hd : x.cls ≠ "java/lang/invoke/MethodHandle" ∧ x.cls ≠ "java/lang/invoke/VarHandle" ∧ (parseMethodDescriptor x.desc).map (fun d => d.parameters.length) = some n) (hmx : maxL ≤ 21) (hn : As.length = n) (hst : stk = As.reverse ++ .ref b :: rest) (hcat : (rest.map fun v => v.category).sum ≤ 8) (hR : d0 + 1 ≤ R.frames ∧ 40 * (d0 + 1) ≤ R.locals) (hcs : cells + mc ≤ R.cells ∧ slots + ms ≤ R.slots) (d : decode cc pc = .ok (.invokevirtual idx, 3)) : bRun p l e R s m args below meth c cells slots mc ms D A nL ws pc L stk rest (Qc (Value.ref b :: As).toArray) := by
  intro H locs ls hP hD hS h
  subst hst
  exact va_runU (As := As) (rest := rest) (C := RJ4) (owner := x.cls) ⟨E.1, E.2.1, E.2.2.1, E.2.2.2.1, E.2.2.2.2.1⟩ hM (va_cwO n E.2.2.2.2.1 hlks rfl rfl rfl hx hd ⟨hR.1, by show 8 + (maxL + 11) + 40 * d0 ≤ R.locals; omega⟩) ⟨preB_blind, va_recv E.2.2.2.2.2.1 hP (q := (RJ4, TJ4, 4)) rfl he, fun U hU hW => ⟨rfl, preB_at E hP hD hS hU hW⟩⟩ rfl hn h.1 rfl (lv_room hcat) d hcs
/-- a method of the builder's class, by its own name -/
theorem rn_B (E : Eb p s m args meth c D tB ad t1 t2 A own cc nL) {y : MethodName} {bytes : ByteArray} {maxL n idx d0 b : Nat} {fs : List Value} {ret : Option FieldType} {As rest stk : List Value} {Qc : Array Value → State → Outcome → State → Prop} (he : ws[0]? = some (b, .inr (0, fs))) (hM : Met l y (Cond.code y bytes maxL ret :: TSp) (rmC d0 mc ms) (va_Pc (.ref b :: As) (PreB D tB ad t1 t2 A ws)) Qc mc ms A) (cv : CV RJ4 y bytes maxL ret n) (hl : Cond.methodLink own idx y ∈ TS) (hmx : maxL ≤ 21) (hn : As.length = n) (hst : stk = As.reverse ++ .ref b :: rest) (hcat : (rest.map fun v => v.category).sum ≤ 8) (hR : d0 + 1 ≤ R.frames ∧ 40 * (d0 + 1) ≤ R.locals) (hcs : cells + mc ≤ R.cells ∧ slots + ms ≤ R.slots) (d : decode cc pc = .ok (.invokevirtual idx, 3)) : bRun p l e R s m args below meth c cells slots mc ms D A nL ws pc L stk rest (Qc (Value.ref b :: As).toArray) := by
  intro H locs ls hP hD hS h
  subst hst
  have hlks := GTp_V (own := own) cv hl
  obtain ⟨-, -, -, -, c1, c2, c3, c4⟩ := cv
  exact va_runV (As := As) (rest := rest) (C := RJ4) ⟨E.1, E.2.1, E.2.2.1, E.2.2.2.1, E.2.2.2.2.1⟩ hM (cwV n E.2.2.2.2.1 hlks rfl rfl rfl ⟨c1, c2, c3, c4⟩ ⟨hR.1, by show 8 + (maxL + 11) + 40 * d0 ≤ R.locals; omega⟩) ⟨preB_blind, va_recv E.2.2.2.2.2.1 hP (q := (RJ4, TJ4, 4)) rfl he, fun U hU hW => ⟨rfl, preB_at E hP hD hS hU hW⟩⟩ rfl hn h.1 rfl (lv_room hcat) d hcs
/-- super: the superclass's method, called in the builder's class -/
theorem rn_SU (E : Eb p s m args meth c D tB ad t1 t2 A RJ4 cc nL) {y : MethodName} {bytes : ByteArray} {maxL n idx d0 b : Nat} {fs : List Value} {ret : Option FieldType} {As rest stk : List Value} {Qc : Array Value → State → Outcome → State → Prop} (he : ws[0]? = some (b, .inr (0, fs))) (hM : Met l y (Cond.code y bytes maxL ret :: TSp) (rmC d0 mc ms) (va_Pc (.ref b :: As) (PreB D tB ad t1 t2 A ws)) Qc mc ms A) (hl : Cond.methodLink RJ4 idx y ∈ TS) (hsm : Cond.sameMethod y.cls y.cls y.name y.desc ∈ TS) (hsu : Cond.superclass RJ4 y.cls ∈ TS) (hin : Cond.instanceMethod y ∈ TS) (hini : Cond.initialized y.cls ∈ TS) (hcd : Cond.code y bytes maxL ret ∈ TS) (hno : y.name ≠ "<init>") (hds : (parseMethodDescriptor y.desc).map (fun d => d.parameters.length) = some n) (hmx : maxL ≤ 21) (hn : As.length = n) (hst : stk = As.reverse ++ .ref b :: rest) (hcat : (rest.map fun v => v.category).sum ≤ 8) (hR : d0 + 1 ≤ R.frames ∧ 40 * (d0 + 1) ≤ R.locals) (hcs : cells + mc ≤ R.cells ∧ slots + ms ≤ R.slots) (d : decode cc pc = .ok (.invokespecial idx, 3)) : bRun p l e R s m args below meth c cells slots mc ms D A nL ws pc L stk rest (Qc (Value.ref b :: As).toArray) := by
  intro H locs ls hP hD hS h
  subst hst
  have hlks : GoodIn TSp (va_wsSU RJ4 idx y (Cond.code y bytes maxL ret :: TSp)) := TSp_good fun w hw => by
    unfold va_wsSU at hw
    simp only [List.cons_append, List.nil_append, List.mem_cons] at hw
    rcases hw with rfl | rfl | rfl | rfl | rfl | rfl | hw
    · exact TSp_r hl
    · exact TSp_r hsm
    · exact TSp_r hsu
    · exact TSp_r hin
    · exact TSp_r hini
    · exact TSp_r hcd
    · exact hw
  exact va_runSU (As := As) (rest := rest) (C := RJ4) (E.2.2.2.2.2.1.1 0 (RJ4, TJ4, 4) rfl).2 ⟨E.1, E.2.1, E.2.2.1, E.2.2.2.1, E.2.2.2.2.1⟩ hM (va_cwSU n E.2.2.2.2.1 hlks rfl rfl rfl ⟨hno, hds⟩ ⟨hR.1, by show 8 + (maxL + 11) + 40 * d0 ≤ R.locals; omega⟩) ⟨preB_blind, va_recv E.2.2.2.2.2.1 hP (q := (RJ4, TJ4, 4)) rfl he, fun U hU hW => ⟨rfl, preB_at E hP hD hS hU hW⟩⟩ rfl hn h.1 rfl (lv_room hcat) d hcs
/-- a constructor -/
theorem rn_I (E : Eb p s m args meth c D tB ad t1 t2 A own cc nL) {y : MethodName} {bytes : ByteArray} {maxL n idx d0 b : Nat} {As rest stk : List Value} {Qc : Array Value → State → Outcome → State → Prop} (hM : Met l y (Cond.code y bytes maxL none :: TSp) (rmC d0 mc ms) (va_Pc (.ref b :: As) (PreB D tB ad t1 t2 A ws)) Qc mc ms A) (hl : Cond.methodLink own idx y ∈ TS) (hin : Cond.instanceMethod y ∈ TS) (hini : Cond.initialized y.cls ∈ TS) (hcd : Cond.code y bytes maxL none ∈ TS) (hno : y.name = "<init>") (hds : y.cls ≠ "java/lang/invoke/MethodHandle" ∧ y.cls ≠ "java/lang/invoke/VarHandle" ∧ (parseMethodDescriptor y.desc).map (fun d => d.parameters.length) = some n) (hmx : maxL ≤ 21) (hn : As.length = n) (hst : stk = As.reverse ++ .ref b :: rest) (hcat : (rest.map fun v => v.category).sum ≤ 8) (hR : d0 + 1 ≤ R.frames ∧ 40 * (d0 + 1) ≤ R.locals) (hcs : cells + mc ≤ R.cells ∧ slots + ms ≤ R.slots) (d : decode cc pc = .ok (.invokespecial idx, 3)) : bRun p l e R s m args below meth c cells slots mc ms D A nL ws pc L stk rest (Qc (Value.ref b :: As).toArray) := by
  intro H locs ls hP hD hS h
  subst hst
  have hG : GoodIn TSp (Cond.code y bytes maxL none :: TSp) := TSp_good fun w hw => (List.mem_cons.mp hw).elim (fun e => by rw [e]; exact TSp_r hcd) id
  exact va_runI (As := As) (rest := rest) ⟨E.1, E.2.1, E.2.2.1, E.2.2.2.1, E.2.2.2.2.1⟩ hM (cwI n E.2.2.2.2.1 hG rfl rfl rfl (E.2.2.2.2.1 _ (TSp_r hini)) (E.2.2.2.2.1 _ (TSp_r hl)) (E.2.2.2.2.1 _ (TSp_r hin)) hno hds ⟨hR.1, by show 8 + (maxL + 11) + 40 * d0 ≤ R.locals; omega⟩) ⟨preB_blind, fun U hU hW => ⟨rfl, preB_at E hP hD hS hU hW⟩⟩ rfl hn h.1 rfl (lv_room hcat) d hcs
theorem rk_i {K : Int32 → va_W → Prop} {stk rest : List Value} {a : Array Value} (hr : bRun p l e R s m args below meth c cells slots mc ms D A nL ws pc L stk rest (va_Qi K (EndB D A) A a)) (kk : ∀ r ws', K r ws' → Wb p l e R s m args below meth c (cells + mc) (slots + ms) Q D A nL ws' (pc + 3) L (.int r :: rest)) : Wb p l e R s m args below meth c cells slots Q D A nL ws pc L stk := fun H locs ls hP hD hS h => va_calli (hr H locs ls hP hD hS h) hS (fun q _ hq => hq) (fun q hq => hq) (fun r u t H1 locs1 ht hvm hw hB hz1 hk1 hS1 => kk r u hw H1 locs1 ls (by rw [← ht]; exact hB.1) hB.2 hS1 h)
theorem rk_v {K : va_W → Prop} {stk rest : List Value} {a : Array Value} (hr : bRun p l e R s m args below meth c cells slots mc ms D A nL ws pc L stk rest (va_Qv K (EndB D A) A a)) (kk : ∀ ws', K ws' → Wb p l e R s m args below meth c (cells + mc) (slots + ms) Q D A nL ws' (pc + 3) L rest) : Wb p l e R s m args below meth c cells slots Q D A nL ws pc L stk := fun H locs ls hP hD hS h => va_callv (hr H locs ls hP hD hS h) hS (fun q _ hq => hq) (fun q hq => hq) (fun u t H1 locs1 ht hvm hw hB hz1 hk1 hS1 => kk u hw H1 locs1 ls (by rw [← ht]; exact hB.1) hB.2 hS1 h)
theorem rk_r {K : Nat → va_W → Prop} {stk rest : List Value} {a : Array Value} (hr : bRun p l e R s m args below meth c cells slots mc ms D A nL ws pc L stk rest (va_Qr (S := va_W) (fun _ => True) (fun w a t => K a w ∧ EndB D A w t) A a)) (kk : ∀ q ws', K q ws' → Wb p l e R s m args below meth c (cells + mc) (slots + ms) Q D A nL ws' (pc + 3) L (.ref q :: rest)) : Wb p l e R s m args below meth c cells slots Q D A nL ws pc L stk := fun H locs ls hP hD hS h => va_callr (hr H locs ls hP hD hS h) hS (fun q _ hq => hq) (fun q hq => hq) (fun u ra t H1 locs1 ht hvm hw hB hz1 hk1 hS1 => kk ra u hB.1 H1 locs1 ls (by rw [← ht]; exact hB.2.1) hB.2.2 hS1 h)
end RBC
