/-! p65: the JDK's builder: what the tables say of its methods -/
def exP : List Cond := [Cond.selects RJ4 yJ5_ensureCapacityInternal_d00df yJ5_ensureCapacityInternal_d00df, Cond.selects RJ4 yJ5_newCapacity_0f7a4 yJ5_newCapacity_0f7a4, Cond.selects RJ4 yJ5_putStringAt_47b60 yJ5_putStringAt_47b60, Cond.selects RJ4 yJ5_inflateIfNeededFor_a7421 yJ5_inflateIfNeededFor_a7421]
def TSp : List Cond := exP ++ TS
theorem TSp_r {w : Cond} (h : w ∈ TS) : w ∈ TSp := List.mem_append_right _ h
theorem exP_good : ∀ w ∈ exP, goodWord w = true := by decide +kernel
theorem TSp_good {ws : List Cond} (h : ∀ w ∈ ws, w ∈ TSp) : GoodIn TSp ws := fun w hw => ⟨h w hw, good_of_word ((List.mem_append.mp (h w hw)).elim (fun q => exP_good w q) (fun q => (List.mem_filter.mp q).2))⟩
theorem iT_J4 : ∀ w ∈ u_ws RJ4 TJ4 4, w ∈ TS := fun w h => TS_of ((by decide +kernel : ∀ w ∈ u_ws RJ4 TJ4 4, w ∈ lw_tbl) w h) ((by decide +kernel : ∀ w ∈ u_ws RJ4 TJ4 4, goodWord w = true) w h)
theorem TSp_of {s : State} {args : Array Value} (hts : ∀ w ∈ lw_tbl, w.before args s = true) : ∀ w ∈ TSp, w.before args s = true := fun w hw => by
  have h0 : (Cond.selects RJ4 yJ5_isLatin1_aae02 yJ5_isLatin1_aae02).before args s = true := hts _ (tin_6 _ (List.mem_of_getElem? (i := 70) (by decide +kernel)))
  have key : ∀ y : MethodName, y.cls = RJ5 → Cond.privateMethod y ∈ lw_tbl → Cond.instanceMethod y ∈ lw_tbl → (Cond.selects RJ4 y y).before args s = true := fun y e h1 h2 => sel_priv h0 e (by rw [e]; decide +kernel) (hts _ h1) (hts _ h2)
  rcases List.mem_append.mp hw with h | h
  · simp only [exP, List.mem_cons, List.mem_nil_iff, or_false] at h
    rcases h with rfl | rfl | rfl | rfl
    · exact key _ rfl (tin_6 _ (List.mem_of_getElem? (i := 40) (by decide +kernel))) (tin_6 _ (List.mem_of_getElem? (i := 41) (by decide +kernel)))
    · exact key _ rfl (tin_6 _ (List.mem_of_getElem? (i := 44) (by decide +kernel))) (tin_6 _ (List.mem_of_getElem? (i := 45) (by decide +kernel)))
    · exact key _ rfl (tin_6 _ (List.mem_of_getElem? (i := 89) (by decide +kernel))) (tin_6 _ (List.mem_of_getElem? (i := 90) (by decide +kernel)))
    · exact key _ rfl (tin_6 _ (List.mem_of_getElem? (i := 93) (by decide +kernel))) (tin_6 _ (List.mem_of_getElem? (i := 94) (by decide +kernel)))
  · exact hts _ (List.mem_filter.mp h).1
/-- the words of an inherited call on a builder -/
theorem bw_U {own : String} {idx : Nat} {y : MethodName} {ws : List Cond} (h1 : Cond.methodLink own idx y ∈ TSp) (h2 : Cond.sameMethod y.cls y.cls y.name y.desc ∈ TSp) (h3 : Cond.selects RJ4 y y ∈ TSp) (h4 : Cond.instanceMethod y ∈ TSp) (h5 : Cond.initialized y.cls ∈ TSp) (h6 : ∀ w ∈ ws, w ∈ TSp) : GoodIn TSp (va_wsU own idx RJ4 y.cls y y ws) := TSp_good fun w hw => by
  unfold va_wsU at hw
  simp only [List.cons_append, List.nil_append, List.mem_cons] at hw
  rcases hw with rfl | rfl | rfl | rfl | rfl | hw
  · exact h1
  · exact h2
  · exact h3
  · exact h4
  · exact h5
  · exact h6 w hw
