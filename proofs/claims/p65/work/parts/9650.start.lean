/-! p65: what stands at the law's start (generator wip/p65/gen/startp.py): classes, texts, statics -/
def repS : List (String × Nat) := [("NoodleCanalLaw", 196), ("NoodleCanal$CanalParser", 98), ("NoodleCanalLaw", 208), ("NoodleCanalLaw", 213), ("NoodleCanalLaw", 215), ("NoodleCanalLaw", 217), ("NoodleCanal$CanalParser", 42), ("NoodleCanal$CanalParser", 42), ("NoodleCanal$CanalParser", 42), ("NoodleCanal$CanalParser", 9), ("NoodleCanal$CanalParser", 42), ("NoodleCanal$CanalParser", 51), ("NoodleCanal$CanalParser", 86), ("NoodleCanal", 55), ("NoodleCanal", 399), ("NoodleCanal", 368), ("NoodleCanal", 385), ("NoodleCanal", 390), ("NoodleCanal", 395), ("NoodleCanal", 402), ("NoodleCanal", 406), ("NoodleCanal$CanalParser", 42)]
def ofE : List Nat := [709, 489, 732, 755, 781, 807, 453, 453, 453, 443, 453, 463, 476, 328, 503, 651, 624, 573, 598, 681, 546, 453]
def tmS (i : Nat) : Term := .string (repS.getD i ("", 0)).1 (repS.getD i ("", 0)).2
def fNw : List Cond := flatC (Jvm.Cond.and given_1 narrow_1)
theorem va_En_congr {E d : String} {nm : List String} {F : List (String × String × String × List Int32)} {ad ad' : Nat → Nat} {A : Nat → Prop} {U : State} {H : Heap} (h : ∀ i, i < nm.length → ad' i = ad i) (hE : va_En E d nm F ad A U H) : va_En E d nm F ad' A U H := ⟨fun i hi => by rw [h i hi]; exact hE.1 i hi, fun i j hi hj e => hE.2 i j hi hj (by rw [← h i hi, ← h j hj]; exact e)⟩
set_option maxRecDepth 100000 in
theorem n_ex : ∀ i, i < 22 → Cond.exactly (tmS i) "java/lang/String" ∈ fNw := by decide +kernel
set_option maxRecDepth 100000 in
theorem n_co : ∀ i, i < 22 → Cond.eq (.field (tmS i) "java/lang/String" "coder" "B") (.int 0) ∈ fNw := by decide +kernel
set_option maxRecDepth 100000 in
theorem n_ar : ∀ i, i < 22 → Cond.arrayOf (.field (tmS i) "java/lang/String" "value" "[B") .byte ∈ fNw := by decide +kernel
set_option maxRecDepth 100000 in
theorem n_le : ∀ i, i < 22 → Cond.eq (.length (.field (tmS i) "java/lang/String" "value" "[B")) (.int (Int32.ofNat (lenS.getD i 0))) ∈ fNw := by decide +kernel
set_option maxRecDepth 100000 in
theorem n_elx : ∀ i, i < 22 → ∀ j, j < lenS.getD i 0 → fNw[ofE.getD i 0 + j]? = some (Cond.eq (.elem (.field (tmS i) "java/lang/String" "value" "[B") (.int (Int32.ofNat j))) (.int ((bytS.getD i []).getD j 0))) := by decide +kernel
theorem n_el : ∀ i, i < 22 → ∀ j, j < lenS.getD i 0 → Cond.eq (.elem (.field (tmS i) "java/lang/String" "value" "[B") (.int (Int32.ofNat j))) (.int ((bytS.getD i []).getD j 0)) ∈ fNw := fun i hi j hj => List.mem_of_getElem? (n_elx i hi j hj)
set_option maxRecDepth 100000 in
theorem n_sr : ∀ q ∈ srefs, Cond.stringRef q.1 q.2.1 q.2.2.2 ∈ lw_tbl := by decide +kernel
theorem n_se : ∀ q ∈ srefs, q.2.2.1 < 22 ∧ (q.1, q.2.1) = repS.getD q.2.2.1 ("", 0) := by decide +kernel
set_option maxRecDepth 100000 in
theorem n_lsO : ∀ i, i < 5 → Cond.laysStatic "NoodleCanal$OrderState" (nmO.getD i "") "LNoodleCanal$OrderState;" ∈ lw_tbl := by decide +kernel
set_option maxRecDepth 100000 in
theorem n_exO : ∀ i, i < 5 → Cond.exactly (.static "NoodleCanal$OrderState" (nmO.getD i "") "LNoodleCanal$OrderState;") "NoodleCanal$OrderState" ∈ fNw := by decide +kernel
set_option maxRecDepth 100000 in
theorem n_diO : ∀ i, i < 5 → ∀ j, j < 5 → i ≠ j → Cond.not (.eq (.static "NoodleCanal$OrderState" (nmO.getD i "") "LNoodleCanal$OrderState;") (.static "NoodleCanal$OrderState" (nmO.getD j "") "LNoodleCanal$OrderState;")) ∈ fNw ∨ Cond.not (.eq (.static "NoodleCanal$OrderState" (nmO.getD j "") "LNoodleCanal$OrderState;") (.static "NoodleCanal$OrderState" (nmO.getD i "") "LNoodleCanal$OrderState;")) ∈ fNw := by decide +kernel
set_option maxRecDepth 100000 in
theorem n_lsV : ∀ i, i < 1 → Cond.laysStatic "NoodleCanal$Verb" (nmV.getD i "") "LNoodleCanal$Verb;" ∈ lw_tbl := by decide +kernel
set_option maxRecDepth 100000 in
theorem n_exV : ∀ i, i < 1 → Cond.exactly (.static "NoodleCanal$Verb" (nmV.getD i "") "LNoodleCanal$Verb;") "NoodleCanal$Verb" ∈ fNw := by decide +kernel
set_option maxRecDepth 100000 in
theorem n_ne : ∀ q ∈ nests, Cond.methodLinkNest q.1 q.2.1 q.2.2 "NoodleCanal" ∈ lw_tbl := by decide +kernel
set_option maxRecDepth 100000 in
theorem n_ao : ∀ C ∈ aoN, Cond.arrayOver (.object C) ∈ lw_tbl := by decide +kernel
set_option maxRecDepth 100000 in
theorem n_d1 : ∀ j, j < 100 → fNw[41 + j]? = some (Cond.eq (.elem (.static "java/lang/Integer" "DigitOnes" "[B") (.int (Int32.ofNat j))) (.int (nI (48 + j % 10)))) := by decide +kernel
set_option maxRecDepth 100000 in
theorem n_d2 : ∀ j, j < 100 → fNw[144 + j]? = some (Cond.eq (.elem (.static "java/lang/Integer" "DigitTens" "[B") (.int (Int32.ofNat j))) (.int (nI (48 + j / 10)))) := by decide +kernel
theorem ki_J0s : Cond.instantiable RJ0 4 ∈ TS := TS_of (tin_6 _ (List.mem_of_getElem? (i := 177) (by decide +kernel))) (by decide +kernel)
theorem start_K {s : State} {args : Array Value} (hts : ∀ w ∈ lw_tbl, w.before args s = true) : ∃ (D : va_G) (tc : Nat → ClassId), va_K D vwCl (tysN tc) s := by
  have hTS : ∀ w ∈ TS, w.before args s = true := fun w h => hts w (List.mem_filter.mp h).1
  obtain ⟨c1, i1, u1⟩ := u_known (ws := TS) (n := 9) hTS iT_1 (hTS _ ki_X1)
  obtain ⟨c2, i2, u2⟩ := u_known (ws := TS) (n := 14) hTS iT_2 (hTS _ ki_X2)
  obtain ⟨c4, i4, u4⟩ := u_known (ws := TS) (n := 6) hTS iT_4 (hTS _ ki_X4)
  obtain ⟨c5, i5, u5⟩ := u_known (ws := TS) (n := 3) hTS iT_5 (hTS _ ki_X5)
  obtain ⟨c6, i6, u6⟩ := u_known (ws := TS) (n := 8) hTS iT_6 (hTS _ ki_X6)
  obtain ⟨c8, i8, u8⟩ := u_known (ws := TS) (n := 3) hTS iT_8 (hTS _ ki_X8)
  obtain ⟨c9, i9, u9⟩ := u_known (ws := TS) (n := 3) hTS iT_9 (hTS _ ki_X9)
  obtain ⟨c10, i10, u10⟩ := u_known (ws := TS) (n := 8) hTS iT_10 (hTS _ ki_X10)
  obtain ⟨c12, i12, u12⟩ := u_known (ws := TS) (n := 9) hTS iT_12 (hTS _ ki_X12)
  obtain ⟨cJ0, iJ0, uJ0⟩ := u_known (ws := TS) (n := 4) hTS iT_J0 (hTS _ ki_J0s)
  obtain ⟨t0, kA0, cm0, f0, g0, h0⟩ := Cond.arrayClass_spec (hTS _ jr_byte)
  obtain ⟨t1, kA1, cm1, f1, g1, h1⟩ := Cond.arrayClass_spec (hTS _ jr_int)
  obtain ⟨cm3, t3, kA3, e3, -, g3, h3, f3⟩ := Cond.arrayOver_spec (hts _ (n_ao "NoodleCanal$Section" (by decide +kernel)))
  obtain ⟨cm4, t4, kA4, e4, -, g4, h4, f4⟩ := Cond.arrayOver_spec (hts _ (n_ao "NoodleCanal$Barge" (by decide +kernel)))
  obtain ⟨cm5, t5, kA5, e5, -, g5, h5, f5⟩ := Cond.arrayOver_spec (hts _ (n_ao "NoodleCanal$Order" (by decide +kernel)))
  obtain ⟨cm6, t6, kA6, e6, -, g6, h6, f6⟩ := Cond.arrayOver_spec (hts _ (n_ao "NoodleCanal$Canal" (by decide +kernel)))
  obtain ⟨cm7, t7, kA7, e7, -, g7, h7, f7⟩ := Cond.arrayOver_spec (hts _ (n_ao "NoodleCanal$Command" (by decide +kernel)))
  refine ⟨(fun q => if q = 0 then c1 else if q = 1 then c2 else if q = 2 then c4 else if q = 3 then c5 else if q = 4 then c6 else if q = 5 then c8 else if q = 6 then c9 else if q = 7 then c10 else if q = 8 then c12 else cJ0, fun q => if q = 0 then i1 else if q = 1 then i2 else if q = 2 then i4 else if q = 3 then i5 else if q = 4 then i6 else if q = 5 then i8 else if q = 6 then i9 else if q = 7 then i10 else if q = 8 then i12 else iJ0), fun q => if q = 0 then t0 else if q = 1 then t1 else if q = 2 then t1 else if q = 3 then t3 else if q = 4 then t4 else if q = 5 then t5 else if q = 6 then t6 else t7, fun q r hq => ?_, fun q r hq => ?_⟩
  · have hlt : q < 10 := (List.getElem?_eq_some_iff.mp hq).1
    rcases (show q = 0 ∨ q = 1 ∨ q = 2 ∨ q = 3 ∨ q = 4 ∨ q = 5 ∨ q = 6 ∨ q = 7 ∨ q = 8 ∨ q = 9 by omega) with rfl | rfl | rfl | rfl | rfl | rfl | rfl | rfl | rfl | rfl <;> cases hq
    · exact u1
    · exact u2
    · exact u4
    · exact u5
    · exact u6
    · exact u8
    · exact u9
    · exact u10
    · exact u12
    · exact uJ0
  · have hlt : q < 8 := (List.getElem?_eq_some_iff.mp hq).1
    rcases (show q = 0 ∨ q = 1 ∨ q = 2 ∨ q = 3 ∨ q = 4 ∨ q = 5 ∨ q = 6 ∨ q = 7 by omega) with rfl | rfl | rfl | rfl | rfl | rfl | rfl | rfl <;> cases hq
    · exact ⟨fun N z => ⟨(fun k h => by cases h), kA0, g0, cm0, h0⟩, f0⟩
    · exact ⟨fun N z => ⟨(fun k h => by cases h), kA1, g1, cm1, h1⟩, f1⟩
    · exact ⟨fun N z => ⟨(fun k h => by cases h), kA1, g1, cm1, h1⟩, f1⟩
    · exact ⟨fun N z => ⟨(fun k h => by cases h), kA3, g3, cm3, h3⟩, kA3, cm3, g3, h3, e3, f3⟩
    · exact ⟨fun N z => ⟨(fun k h => by cases h), kA4, g4, cm4, h4⟩, kA4, cm4, g4, h4, e4, f4⟩
    · exact ⟨fun N z => ⟨(fun k h => by cases h), kA5, g5, cm5, h5⟩, kA5, cm5, g5, h5, e5, f5⟩
    · exact ⟨fun N z => ⟨(fun k h => by cases h), kA6, g6, cm6, h6⟩, kA6, cm6, g6, h6, e6, f6⟩
    · exact ⟨fun N z => ⟨(fun k h => by cases h), kA7, g7, cm7, h7⟩, kA7, cm7, g7, h7, e7, f7⟩
theorem start_St {s : State} {args : Array Value} (hts : ∀ w ∈ lw_tbl, w.before args s = true) (hn : (Jvm.Cond.and given_1 narrow_1).before args s = true) {A : Nat → Prop} (hA : ∀ a : Nat, a < s.heap.size → ¬ A a) : ∃ ad : Nat → Nat, St ad A s s.heap := by
  have hN : ∀ w ∈ fNw, w.before args s = true := flat_of_before _ hn
  obtain ⟨aO, hO⟩ := va_Enof (E := "NoodleCanal$OrderState") (d := "LNoodleCanal$OrderState;") (nm := nmO) (F := []) (A := A) (fun i hi => hts _ (n_lsO i hi)) (hts _ (tin_1 _ (List.mem_of_getElem? (i := 12) (by decide +kernel)))) (fun i hi => hN _ (n_exO i hi)) (fun q hq => absurd hq List.not_mem_nil) (fun i j hi hj hij => (n_diO i hi j hj hij).imp (hN _) (hN _)) hA
  obtain ⟨aV, hV⟩ := va_Enof (E := "NoodleCanal$Verb") (d := "LNoodleCanal$Verb;") (nm := nmV) (F := []) (A := A) (fun i hi => hts _ (n_lsV i hi)) (hts _ (tin_1 _ (List.mem_of_getElem? (i := 6) (by decide +kernel)))) (fun i hi => hN _ (n_exV i hi)) (fun q hq => absurd hq List.not_mem_nil) (fun i j hi hj hij => absurd (show i = j by have hi : i < 1 := hi; have hj : j < 1 := hj; omega) hij) hA
  have h0 : ∀ i : Nat, ∃ q : Nat × Nat, i < 22 → (tmS i).eval args s none [] s = some (.ref q.1) ∧ vk_S 1 [lenS.getD i 0] [bytS.getD i []] (fun _ => q.1) (fun _ => q.2) A s s.heap := by
    intro i
    by_cases hi : i < 22
    · obtain ⟨aK, aB, hS, he⟩ := vk_Sof (N := 1) (tm := fun _ => tmS i) (len := [lenS.getD i 0]) (byt := [bytS.getD i []]) (A := A) (args := args) (s := s) (fun k hk => by
        rw [show k = 0 by omega]
        exact (by decide +kernel : ∀ i, i < 22 → ([lenS.getD i 0] : List Nat).getD 0 0 < 2 ^ 31) i hi) (fun k _ => hN _ (n_ex i hi)) (fun k _ => hN _ (n_co i hi)) (fun k _ => hN _ (n_ar i hi)) (fun k hk => by rw [show k = 0 by omega]; exact hN _ (n_le i hi)) (fun k hk j hj => by
        have hk0 : k = 0 := by omega
        subst hk0
        exact hN _ (n_el i hi j hj)) (fun k j hk hj hkj => by omega) hA
      refine ⟨(aK 0, aB 0), fun _ => ⟨he 0 (by decide), fun k hk => ?_, fun k j hk hj _ => by omega⟩⟩
      have hk0 : k = 0 := by omega
      subst hk0
      exact hS.1 0 (by decide)
    · exact ⟨(0, 0), fun h => absurd h hi⟩
  obtain ⟨aS, hS⟩ : ∃ aS : Nat → Nat × Nat, ∀ i : Nat, i < 22 → (tmS i).eval args s none [] s = some (.ref (aS i).1) ∧ vk_S 1 [lenS.getD i 0] [bytS.getD i []] (fun _ => (aS i).1) (fun _ => (aS i).2) A s s.heap := ⟨fun i => Classical.choose (h0 i), fun i => Classical.choose_spec (h0 i)⟩
  obtain ⟨ad, had⟩ : ∃ z : Nat → Nat, z = fun i => if i < 2100 then aO (i - 2000) else if i < 2200 then aV (i - 2107) else if i < 2300 then (aS (i - 2200)).1 else (aS (i - 2300)).2 := ⟨_, rfl⟩
  have zO : ∀ i, i < 5 → ad (2000 + i) = aO i := fun i hi => by subst had; show (if 2000 + i < 2100 then aO (2000 + i - 2000) else _) = _; rw [if_pos (by omega), Nat.add_sub_cancel_left]
  have zV : ∀ i, i < 1 → ad (2107 + i) = aV i := fun i hi => by subst had; show (if 2107 + i < 2100 then _ else if 2107 + i < 2200 then aV (2107 + i - 2107) else _) = _; rw [if_neg (by omega), if_pos (by omega), Nat.add_sub_cancel_left]
  have zK : ∀ i, i < 22 → ad (2200 + i) = (aS i).1 := fun i hi => by subst had; show (if 2200 + i < 2100 then _ else if 2200 + i < 2200 then _ else if 2200 + i < 2300 then (aS (2200 + i - 2200)).1 else _) = _; rw [if_neg (by omega), if_neg (by omega), if_pos (by omega), Nat.add_sub_cancel_left]
  have zB : ∀ i, i < 22 → ad (2300 + i) = (aS i).2 := fun i hi => by subst had; show (if 2300 + i < 2100 then _ else if 2300 + i < 2200 then _ else if 2300 + i < 2300 then _ else (aS (2300 + i - 2300)).2) = _; rw [if_neg (by omega), if_neg (by omega), if_neg (by omega), Nat.add_sub_cancel_left]
  clear had
  refine ⟨ad, ⟨va_En_congr zO hO, va_En_congr zV hV⟩, ⟨fun i hi => ?_, ?_, ?_⟩, fun q hq => ?_, fun q hq => ?_⟩
  · have hi : i < 22 := hi
    show vk_S 1 [lenS.getD i 0] [bytS.getD i []] (fun _ => ad (2200 + i)) (fun _ => ad (2300 + i)) A s s.heap
    rw [zK i hi, zB i hi]
    exact (hS i hi).2
  · exact va_Zof (hts _ (tin_2 _ (List.mem_of_getElem? (i := 96) (by decide +kernel)))) (hts _ (tin_1 _ (List.mem_of_getElem? (i := 13) (by decide +kernel)))) (va_eqi (hN _ (by decide +kernel : Cond.eq (.static "java/lang/String" "COMPACT_STRINGS" "Z") (.int 1) ∈ fNw))) hA
  · exact va_Zqof (hts _ (tin_2 _ (List.mem_of_getElem? (i := 112) (by decide +kernel)))) (hts _ (tin_1 _ (List.mem_of_getElem? (i := 15) (by decide +kernel)))) (hN _ (by decide +kernel : Cond.isRef (.static "jdk/internal/util/Preconditions" "SIOOBE_FORMATTER" "Ljava/util/function/BiFunction;") ∈ fNw)) hA
  · obtain ⟨hi, hr⟩ := n_se q hq
    rw [zK _ hi]
    refine vk_R.of (hts _ (n_sr q hq)) ?_
    have e1 : q.1 = (repS.getD q.2.2.1 ("", 0)).1 := congrArg Prod.fst hr
    have e2 : q.2.1 = (repS.getD q.2.2.1 ("", 0)).2 := congrArg Prod.snd hr
    rw [e1, e2]
    exact (hS _ hi).1
  · exact va_Nw.of rfl (hts _ (n_ne q hq))
theorem start_B {s : State} {args : Array Value} {ad : Nat → Nat} (hts : ∀ w ∈ lw_tbl, w.before args s = true) (hn : (Jvm.Cond.and given_1 narrow_1).before args s = true) {A : Nat → Prop} (hA : ∀ a : Nat, a < s.heap.size → ¬ A a) (h : St ad A s s.heap) : ∃ t1 t2 : Nat, StB ad t1 t2 A s s.heap := by
  have hN : ∀ w ∈ fNw, w.before args s = true := flat_of_before _ hn
  obtain ⟨t1, he1, hT1⟩ := va_Tof (tm := .static "java/lang/Integer" "DigitOnes" "[B") (ty := .byte) (N := 100) (f := dgO) (A := A) (args := args) (s := s) (by decide) (hN _ (by decide +kernel : Cond.arrayOf (.static "java/lang/Integer" "DigitOnes" "[B") .byte ∈ fNw)) (va_eqt (hN _ (by decide +kernel : Cond.eq (.length (.static "java/lang/Integer" "DigitOnes" "[B")) (.int (Int32.ofNat 100)) ∈ fNw))) (fun j hj => va_eqt (hN _ (List.mem_of_getElem? (n_d1 j hj)))) hA
  obtain ⟨t2, he2, hT2⟩ := va_Tof (tm := .static "java/lang/Integer" "DigitTens" "[B") (ty := .byte) (N := 100) (f := dgT) (A := A) (args := args) (s := s) (by decide) (hN _ (by decide +kernel : Cond.arrayOf (.static "java/lang/Integer" "DigitTens" "[B") .byte ∈ fNw)) (va_eqt (hN _ (by decide +kernel : Cond.eq (.length (.static "java/lang/Integer" "DigitTens" "[B")) (.int (Int32.ofNat 100)) ∈ fNw))) (fun j hj => va_eqt (hN _ (List.mem_of_getElem? (n_d2 j hj)))) hA
  exact ⟨t1, t2, h.2.1, ⟨va_Zref (hts _ (tin_6 _ (List.mem_of_getElem? (i := 161) (by decide +kernel)))) (hts _ (tin_1 _ (List.mem_of_getElem? (i := 24) (by decide +kernel)))) he1 hA, hT1⟩, va_Zref (hts _ (tin_6 _ (List.mem_of_getElem? (i := 163) (by decide +kernel)))) (hts _ (tin_1 _ (List.mem_of_getElem? (i := 24) (by decide +kernel)))) he2 hA, hT2, va_Nw.of rfl (hts _ (tin_6 _ (List.mem_of_getElem? (i := 63) (by decide +kernel))))⟩
