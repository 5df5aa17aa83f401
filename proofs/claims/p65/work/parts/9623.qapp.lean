/-! p65: the law appends -/
section RQA
variable {p : Program} {l : Launch} {e : Env} {R : Room} {s : State} {m : MethodId} {args : Array Value} {below : List Frame} {meth : Method} {c : Code} {cells slots t1 t2 N b : Nat} {Q : State → Prop} {D DB : va_G} {tc : Nat → ClassId} {ad : Nat → Nat} {H0 : Heap} {ws : va_W} {pc : Nat} {L : List (Nat × Value)} {rest stk : List Value} {T : List Nat}
theorem Wq_widen {k n : Nat} (h1 : cells ≤ k) (h2 : slots ≤ n) (kk : Wq p l e R s m args below meth c k n Q DB N H0 ws pc L stk) : Wq p l e R s m args below meth c cells slots Q DB N H0 ws pc L stk := fun H locs ls hP hD hS hG h => W.widen h1 h2 (kk H locs ls hP hD hS hG h)
theorem rq_aS (E : Eq9 p s m args meth c D DB tc ad t1 t2 N H0) {i : Nat} (hw : BW (tc 0) b T ws) (hi : i < nS) (hT : T.length ≤ 800) (hlen : lenS.getD i 0 ≤ 200) (hst : stk = .ref (ad (2200 + i)) :: .ref b :: rest) (hcat : (rest.map fun v => v.category).sum ≤ 8) (hR : 6 ≤ R.frames ∧ 240 ≤ R.locals) (hcs : cells + 1 ≤ R.cells ∧ slots + 2500 ≤ R.slots) (d : decode cL_law pc = .ok (.invokevirtual 210, 3)) (kk : ∀ ws', BW (tc 0) b (T ++ byN i) ws' → Wq p l e R s m args below meth c (cells + 1) (slots + 2500) Q DB N H0 ws' (pc + 3) L (.ref b :: rest)) : Wq p l e R s m args below meth c cells slots Q DB N H0 ws pc L stk := by
  obtain ⟨fs, h0⟩ := hw.at0
  refine rq_B E (As := [.ref (ad (2200 + i))]) (rest := rest) h0 (B_appS hi hw (by omega)) cv_J4_append_15ec4 ml_L_210 (by decide) rfl hst hcat hR hcs d (fun q ws' h => ?_)
  obtain ⟨rfl, h⟩ := h
  exact kk ws' h
theorem rq_aI (E : Eq9 p s m args meth c D DB tc ad t1 t2 N H0) {v : Nat} {y : Int32} (hw : BW (tc 0) b T ws) (hy : y = nI v) (hv : v < 100) (hT : T.length ≤ 1000) (hst : stk = .int y :: .ref b :: rest) (hcat : (rest.map fun v => v.category).sum ≤ 8) (hR : 6 ≤ R.frames ∧ 240 ≤ R.locals) (hcs : cells + 1 ≤ R.cells ∧ slots + 2500 ≤ R.slots) (d : decode cL_law pc = .ok (.invokevirtual 201, 3)) (kk : ∀ ws', BW (tc 0) b (T ++ dg v) ws' → Wq p l e R s m args below meth c (cells + 1) (slots + 2500) Q DB N H0 ws' (pc + 3) L (.ref b :: rest)) : Wq p l e R s m args below meth c cells slots Q DB N H0 ws pc L stk := by
  subst hy
  obtain ⟨fs, h0⟩ := hw.at0
  refine rq_B E (As := [.int (nI v)]) (rest := rest) h0 (B_appI hv hw (by omega)) cv_J4_append_bf812 ml_L_201 (by decide) rfl hst hcat hR hcs d (fun q ws' h => ?_)
  obtain ⟨rfl, h⟩ := h
  exact kk ws' h
theorem rq_aC (E : Eq9 p s m args meth c D DB tc ad t1 t2 N H0) {k : Nat} {y : Int32} (hw : BW (tc 0) b T ws) (hy : y = nI k) (hk : k < 128) (hT : T.length ≤ 1000) (hst : stk = .int y :: .ref b :: rest) (hcat : (rest.map fun v => v.category).sum ≤ 8) (hR : 6 ≤ R.frames ∧ 240 ≤ R.locals) (hcs : cells + 1 ≤ R.cells ∧ slots + 2500 ≤ R.slots) (d : decode cL_law pc = .ok (.invokevirtual 205, 3)) (kk : ∀ ws', BW (tc 0) b (T ++ [k]) ws' → Wq p l e R s m args below meth c (cells + 1) (slots + 2500) Q DB N H0 ws' (pc + 3) L (.ref b :: rest)) : Wq p l e R s m args below meth c cells slots Q DB N H0 ws pc L stk := by
  subst hy
  obtain ⟨fs, h0⟩ := hw.at0
  refine rq_B E (As := [.int (nI k)]) (rest := rest) h0 (B_appC hk hw (by omega)) cv_J4_append_cf468 ml_L_205 (by decide) rfl hst hcat hR hcs d (fun q ws' h => ?_)
  obtain ⟨rfl, h⟩ := h
  exact kk ws' h
theorem rq_str (E : Eq9 p s m args meth c D DB tc ad t1 t2 N H0) (hw : BW (tc 0) b T ws) (hst : stk = .ref b :: rest) (hcat : (rest.map fun v => v.category).sum ≤ 8) (hR : 6 ≤ R.frames ∧ 240 ≤ R.locals) (hcs : cells + 2 ≤ R.cells ∧ slots + 2600 ≤ R.slots) (d : decode cL_law pc = .ok (.invokevirtual 219, 3)) (kk : ∀ (x d q : Nat) (f : Nat → Int32) (a : Nat) (g : Nat → Int32), (∀ j, j < T.length → g j = nI (T.getD j 0)) → Wq p l e R s m args below meth c (cells + 2) (slots + 2600) Q DB N H0 [oB b d T.length, eB (tc 0) d q f, stN x (.ref a), eB (tc 0) a T.length g] (pc + 3) L (.ref x :: rest)) : Wq p l e R s m args below meth c cells slots Q DB N H0 ws pc L stk := by
  obtain ⟨fs, h0⟩ := hw.at0
  refine rq_B E (As := []) (rest := rest) h0 (B_toStr hw) cv_J4_toString_0e30d ml_L_219 (by decide) rfl hst hcat hR hcs d (fun x ws' h => ?_)
  obtain ⟨d, q, f, a, g, rfl, hg⟩ := h
  exact kk x d q f a g hg
end RQA
