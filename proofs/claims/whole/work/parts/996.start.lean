def repS : List (String × Nat) := [("NoodleCanal$Verb", 55), ("NoodleCanal$Verb", 61), ("NoodleCanal$Verb", 64), ("NoodleCanal$Verb", 67), ("NoodleCanal$Verb", 70), ("NoodleCanal$Verb", 73), ("NoodleCanal$Verb", 76), ("NoodleCanal$Verb", 79), ("NoodleCanal$Verb", 82), ("NoodleCanalModel", 377), ("NoodleCanalModel", 379), ("NoodleCanalModel", 381), ("NoodleCanalModel", 375), ("NoodleCanal", 55), ("NoodleCanal", 399), ("NoodleCanal", 368), ("NoodleCanal", 385), ("NoodleCanal", 390), ("NoodleCanal", 395), ("NoodleCanal", 402), ("NoodleCanal", 406), ("NoodleCanal", 355)]
def tmS (i : Nat) : Term := .string (repS.getD i ("", 0)).1 (repS.getD i ("", 0)).2
def fN : List Cond := flatC (Jvm.Cond.and given_1 narrow_1)
theorem va_En_congr {E d : String} {nm : List String} {F : List (String × String × String × List Int32)} {ad ad' : Nat → Nat} {A : Nat → Prop} {U : State} {H : Heap} (h : ∀ i, i < nm.length → ad' i = ad i) (hE : va_En E d nm F ad A U H) : va_En E d nm F ad' A U H := ⟨fun i hi => by rw [h i hi]; exact hE.1 i hi, fun i j hi hj e => hE.2 i j hi hj (by rw [← h i hi, ← h j hj]; exact e)⟩
set_option maxRecDepth 100000 in
theorem n_ex : ∀ i, i < 22 → Cond.exactly (tmS i) "java/lang/String" ∈ fN := by decide +kernel
set_option maxRecDepth 100000 in
theorem n_co : ∀ i, i < 22 → Cond.eq (.field (tmS i) "java/lang/String" "coder" "B") (.int 0) ∈ fN := by decide +kernel
set_option maxRecDepth 100000 in
theorem n_ar : ∀ i, i < 22 → Cond.arrayOf (.field (tmS i) "java/lang/String" "value" "[B") .byte ∈ fN := by decide +kernel
set_option maxRecDepth 100000 in
theorem n_le : ∀ i, i < 22 → Cond.eq (.length (.field (tmS i) "java/lang/String" "value" "[B")) (.int (Int32.ofNat (lenS.getD i 0))) ∈ fN := by decide +kernel
def ofE : List Nat := [750, 759, 770, 779, 788, 798, 810, 730, 739, 690, 700, 709, 720, 291, 451, 488, 507, 524, 541, 558, 574, 594]
set_option maxRecDepth 100000 in
theorem n_elx : ∀ i, i < 22 → ∀ j, j < lenS.getD i 0 → fN[ofE.getD i 0 + j]? = some (Cond.eq (.elem (.field (tmS i) "java/lang/String" "value" "[B") (.int (Int32.ofNat j))) (.int ((bytS.getD i []).getD j 0))) := by decide +kernel
theorem n_el : ∀ i, i < 22 → ∀ j, j < lenS.getD i 0 → Cond.eq (.elem (.field (tmS i) "java/lang/String" "value" "[B") (.int (Int32.ofNat j))) (.int ((bytS.getD i []).getD j 0)) ∈ fN := fun i hi j hj => List.mem_of_getElem? (n_elx i hi j hj)
theorem n_di : ∀ i, i < 22 → ∀ j, j < 22 → i ≠ j → lenS.getD i 0 ≠ lenS.getD j 0 ∨ ∃ k, k < lenS.getD i 0 ∧ (bytS.getD i []).getD k 0 ≠ (bytS.getD j []).getD k 0 := by decide +kernel
set_option maxRecDepth 100000 in
theorem n_sr : ∀ q ∈ srefs, Cond.stringRef q.1 q.2.1 q.2.2.2 ∈ lw_tbl := by decide +kernel
set_option maxRecDepth 100000 in
theorem n_se : ∀ q ∈ srefs, q.2.2.1 < 22 ∧ ((q.1, q.2.1) = repS.getD q.2.2.1 ("", 0) ∨ Cond.eq (.string q.1 q.2.1) (tmS q.2.2.1) ∈ fN) := by decide +kernel
set_option maxRecDepth 100000 in
theorem n_lsO : ∀ i, i < 5 → Cond.laysStatic "NoodleCanal$OrderState" (nmO.getD i "") "LNoodleCanal$OrderState;" ∈ lw_tbl := by decide +kernel
set_option maxRecDepth 100000 in
theorem n_exO : ∀ i, i < 5 → Cond.exactly (.static "NoodleCanal$OrderState" (nmO.getD i "") "LNoodleCanal$OrderState;") "NoodleCanal$OrderState" ∈ fN := by decide +kernel
set_option maxRecDepth 100000 in
theorem n_diO : ∀ i, i < 5 → ∀ j, j < 5 → i ≠ j → Cond.not (.eq (.static "NoodleCanal$OrderState" (nmO.getD i "") "LNoodleCanal$OrderState;") (.static "NoodleCanal$OrderState" (nmO.getD j "") "LNoodleCanal$OrderState;")) ∈ fN ∨ Cond.not (.eq (.static "NoodleCanal$OrderState" (nmO.getD j "") "LNoodleCanal$OrderState;") (.static "NoodleCanal$OrderState" (nmO.getD i "") "LNoodleCanal$OrderState;")) ∈ fN := by decide +kernel
set_option maxRecDepth 100000 in
theorem n_lsV : ∀ i, i < 9 → Cond.laysStatic "NoodleCanal$Verb" (nmV.getD i "") "LNoodleCanal$Verb;" ∈ lw_tbl := by decide +kernel
set_option maxRecDepth 100000 in
theorem n_exV : ∀ i, i < 9 → Cond.exactly (.static "NoodleCanal$Verb" (nmV.getD i "") "LNoodleCanal$Verb;") "NoodleCanal$Verb" ∈ fN := by decide +kernel
def ofV : List (List Nat) := [[816, 94, 105, 117, 130, 144, 159, 816, 816], [816, 816, 106, 118, 131, 145, 160, 816, 816], [816, 816, 816, 119, 132, 146, 161, 816, 816], [816, 816, 816, 816, 133, 147, 162, 816, 816], [816, 816, 816, 816, 816, 148, 163, 816, 816], [816, 816, 816, 816, 816, 816, 164, 816, 816], [816, 816, 816, 816, 816, 816, 816, 816, 816], [77, 87, 98, 110, 123, 137, 152, 816, 56], [83, 93, 104, 116, 129, 143, 158, 816, 816]]
def neV (i j : Nat) : Cond := Cond.not (.eq (.static "NoodleCanal$Verb" (nmV.getD i "") "LNoodleCanal$Verb;") (.static "NoodleCanal$Verb" (nmV.getD j "") "LNoodleCanal$Verb;"))
set_option maxRecDepth 100000 in
theorem n_diVx : ∀ i, i < 9 → ∀ j, j < 9 → (ofV.getD i []).getD j 816 < 816 → fN[(ofV.getD i []).getD j 816]? = some (neV i j) := by decide +kernel
theorem n_diVy : ∀ i, i < 9 → ∀ j, j < 9 → i ≠ j → (ofV.getD i []).getD j 816 < 816 ∨ (ofV.getD j []).getD i 816 < 816 := by decide +kernel
theorem n_diV : ∀ i, i < 9 → ∀ j, j < 9 → i ≠ j → Cond.not (.eq (.static "NoodleCanal$Verb" (nmV.getD i "") "LNoodleCanal$Verb;") (.static "NoodleCanal$Verb" (nmV.getD j "") "LNoodleCanal$Verb;")) ∈ fN ∨ Cond.not (.eq (.static "NoodleCanal$Verb" (nmV.getD j "") "LNoodleCanal$Verb;") (.static "NoodleCanal$Verb" (nmV.getD i "") "LNoodleCanal$Verb;")) ∈ fN := fun i hi j hj hij => (n_diVy i hi j hj hij).imp (fun h => List.mem_of_getElem? (n_diVx i hi j hj h)) (fun h => List.mem_of_getElem? (n_diVx j hj i hi h))
set_option maxRecDepth 100000 in
theorem n_orV : ∀ i, i < 9 → Cond.eq (.field (.static "NoodleCanal$Verb" (nmV.getD i "") "LNoodleCanal$Verb;") "java/lang/Enum" "ordinal" "I") (.int (([0, 1, 2, 3, 4, 5, 6, 7, 8] : List Int32).getD i 0)) ∈ fN := by decide +kernel
set_option maxRecDepth 100000 in
theorem n_woV : ∀ i, i < 9 → Cond.eq (.field (.static "NoodleCanal$Verb" (nmV.getD i "") "LNoodleCanal$Verb;") "NoodleCanal$Verb" "word" "Ljava/lang/String;") (tmS i) ∈ fN := by decide +kernel
set_option maxRecDepth 100000 in
theorem n_ve : ∀ j, j < 9 → Cond.eq (.elem (.static "NoodleCanal" "VERBS" "[LNoodleCanal$Verb;") (.int (Int32.ofNat j))) (.static "NoodleCanal$Verb" (nmV.getD j "") "LNoodleCanal$Verb;") ∈ fN := by decide +kernel
set_option maxRecDepth 100000 in
theorem n_sm : ∀ j, j < 9 → Cond.eq (.elem (.static "NoodleCanal$1" "$SwitchMap$NoodleCanal$Verb" "[I") (.int (Int32.ofNat j))) (.int (nI (j + 1))) ∈ fN := by decide +kernel
set_option maxRecDepth 100000 in
theorem n_ne : ∀ q ∈ nests, Cond.methodLinkNest q.1 q.2.1 q.2.2 "NoodleCanal" ∈ lw_tbl := by decide +kernel
set_option maxRecDepth 100000 in
theorem n_ca : ∀ x ∈ exns, Cond.castable x x ∈ lw_tbl := by decide +kernel
set_option maxRecDepth 100000 in
theorem n_de : ∀ x ∈ thrN, Cond.declares ⟨x, "<init>", "(Ljava/lang/String;)V"⟩ ∈ lw_tbl := by decide +kernel
set_option maxRecDepth 100000 in
theorem n_nc : ∀ x ∈ exns, ∀ y ∈ exns, x ≠ y → Cond.not (.castable x y) ∈ fN := by decide +kernel
set_option maxRecDepth 100000 in
theorem n_ao : ∀ C ∈ aoN, Cond.arrayOver (.object C) ∈ lw_tbl := by decide +kernel
/-- two strings at one address have one text -/
theorem str_inj {A : Nat → Prop} {s : State} {a b x y n k : Nat} {f g : Nat → Value} (e : a = b) (h1 : va_OF "java/lang/String" "value" "[B" (.ref x) a A s s.heap) (h2 : va_OF "java/lang/String" "value" "[B" (.ref y) b A s s.heap) (h3 : va_T .byte x n f A s s.heap) (h4 : va_T .byte y k g A s s.heap) (hn : n < 1000) (hk : k < 1000) : n = k ∧ ∀ j, j < n → f j = g j := by
  subst e
  obtain ⟨cf, c, i, fd, cell, p1, p2, p3, p4, p5, p6⟩ := h1
  obtain ⟨cf', c', i', fd', cell', r1, r2, r3, r4, r5, r6⟩ := h2
  rw [p1] at r1
  cases r1
  rw [p3] at r3
  cases r3
  rw [p5] at r5
  cases r5
  obtain ⟨w, q1, q2, q3, q4, q5, q6, q7⟩ := h3
  obtain ⟨w', u1, u2, u3, u4, u5, u6, u7⟩ := h4
  rw [q1] at u1
  cases u1
  have hnk : n = k := by
    rw [q5] at u5
    have e1 : (nI n).toNatClampNeg = (nI k).toNatClampNeg := by
      have : nI n = nI k := u5
      rw [this]
    rw [nI_clamp (by omega), nI_clamp (by omega)] at e1
    exact e1
  subst hnk
  refine ⟨rfl, fun j hj => ?_⟩
  have z1 := q6 j hj
  have z2 := u6 j hj
  rw [z1] at z2
  exact Option.some.inj z2
theorem start_K {s : State} {args : Array Value} (hts : ∀ w ∈ lw_tbl, w.before args s = true) : ∃ (D : va_G) (tc : Nat → ClassId), va_K D vwCl (tysN tc) s := by
  have hTS : ∀ w ∈ TS, w.before args s = true := fun w h => hts w (List.mem_filter.mp h).1
  obtain ⟨c1, i1, u1⟩ := u_known (ws := TS) (n := 9) hTS iT_1 (hTS _ ki_X1)
  obtain ⟨c2, i2, u2⟩ := u_known (ws := TS) (n := 14) hTS iT_2 (hTS _ ki_X2)
  obtain ⟨c4, i4, u4⟩ := u_known (ws := TS) (n := 6) hTS iT_4 (hTS _ ki_X4)
  obtain ⟨c5, i5, u5⟩ := u_known (ws := TS) (n := 3) hTS iT_5 (hTS _ ki_X5)
  obtain ⟨c6, i6, u6⟩ := u_known (ws := TS) (n := 8) hTS iT_6 (hTS _ ki_X6)
  obtain ⟨c8, i8, u8⟩ := u_known (ws := TS) (n := 3) hTS iT_8 (hTS _ ki_X8)
  obtain ⟨c9, i9, u9⟩ := u_known (ws := TS) (n := 3) hTS iT_9 (hTS _ ki_X9)
  obtain ⟨c10, i10, u10⟩ := u_known (ws := TS) (n := 8) hTS iT_10 (hTS _ ki_X10)
  obtain ⟨c12, i12, u12⟩ := u_known (ws := TS) (n := 9) hTS iT_12 (hTS _ ki_X12)
  obtain ⟨c13, i13, u13⟩ := u_known (ws := TS) (n := 28) hTS iT_13 (hTS _ ki_X13)
  obtain ⟨t0, kA0, cm0, f0, g0, h0⟩ := Cond.arrayClass_spec (hTS _ jr_byte)
  obtain ⟨t1, kA1, cm1, f1, g1, h1⟩ := Cond.arrayClass_spec (hTS _ jr_int)
  obtain ⟨t2, kA2, cm2, f2, g2, h2⟩ := Cond.arrayClass_spec (hTS _ jr_long)
  obtain ⟨cm3, t3, kA3, e3, -, g3, h3, f3⟩ := Cond.arrayOver_spec (hts _ (n_ao "NoodleCanal$Section" (by decide +kernel)))
  obtain ⟨cm4, t4, kA4, e4, -, g4, h4, f4⟩ := Cond.arrayOver_spec (hts _ (n_ao "NoodleCanal$Barge" (by decide +kernel)))
  obtain ⟨cm5, t5, kA5, e5, -, g5, h5, f5⟩ := Cond.arrayOver_spec (hts _ (n_ao "NoodleCanal$Order" (by decide +kernel)))
  obtain ⟨cm6, t6, kA6, e6, -, g6, h6, f6⟩ := Cond.arrayOver_spec (hts _ (n_ao "NoodleCanal$Canal" (by decide +kernel)))
  obtain ⟨cm7, t7, kA7, e7, -, g7, h7, f7⟩ := Cond.arrayOver_spec (hts _ (n_ao "NoodleCanal$Command" (by decide +kernel)))
  obtain ⟨cm8, t8, kA8, e8, -, g8, h8, f8⟩ := Cond.arrayOver_spec (hts _ (n_ao "java/lang/String" (by decide +kernel)))
  refine ⟨(fun q => if q = 0 then c1 else if q = 1 then c2 else if q = 2 then c4 else if q = 3 then c5 else if q = 4 then c6 else if q = 5 then c8 else if q = 6 then c9 else if q = 7 then c10 else if q = 8 then c12 else c13, fun q => if q = 0 then i1 else if q = 1 then i2 else if q = 2 then i4 else if q = 3 then i5 else if q = 4 then i6 else if q = 5 then i8 else if q = 6 then i9 else if q = 7 then i10 else if q = 8 then i12 else i13), fun q => if q = 0 then t0 else if q = 1 then t1 else if q = 2 then t2 else if q = 3 then t3 else if q = 4 then t4 else if q = 5 then t5 else if q = 6 then t6 else if q = 7 then t7 else t8, fun q r hq => ?_, fun q r hq => ?_⟩
  · have hlt : q < 10 := (List.getElem?_eq_some_iff.mp hq).1
    rcases (show q = 0 ∨ q = 1 ∨ q = 2 ∨ q = 3 ∨ q = 4 ∨ q = 5 ∨ q = 6 ∨ q = 7 ∨ q = 8 ∨ q = 9 by omega) with rfl | rfl | rfl | rfl | rfl | rfl | rfl | rfl | rfl | rfl <;> cases hq
    · exact u1
    · exact u2
    · exact u4
    · exact u5
    · exact u6
    · exact u8
    · exact u9
    · exact u10
    · exact u12
    · exact u13
  · have hlt : q < 9 := (List.getElem?_eq_some_iff.mp hq).1
    rcases (show q = 0 ∨ q = 1 ∨ q = 2 ∨ q = 3 ∨ q = 4 ∨ q = 5 ∨ q = 6 ∨ q = 7 ∨ q = 8 by omega) with rfl | rfl | rfl | rfl | rfl | rfl | rfl | rfl | rfl <;> cases hq
    · exact ⟨fun N z => ⟨(fun k h => by cases h), kA0, g0, cm0, h0⟩, f0⟩
    · exact ⟨fun N z => ⟨(fun k h => by cases h), kA1, g1, cm1, h1⟩, f1⟩
    · exact ⟨fun N z => ⟨(fun k h => by cases h), kA2, g2, cm2, h2⟩, f2⟩
    · exact ⟨fun N z => ⟨(fun k h => by cases h), kA3, g3, cm3, h3⟩, kA3, cm3, g3, h3, e3, f3⟩
    · exact ⟨fun N z => ⟨(fun k h => by cases h), kA4, g4, cm4, h4⟩, kA4, cm4, g4, h4, e4, f4⟩
    · exact ⟨fun N z => ⟨(fun k h => by cases h), kA5, g5, cm5, h5⟩, kA5, cm5, g5, h5, e5, f5⟩
    · exact ⟨fun N z => ⟨(fun k h => by cases h), kA6, g6, cm6, h6⟩, kA6, cm6, g6, h6, e6, f6⟩
    · exact ⟨fun N z => ⟨(fun k h => by cases h), kA7, g7, cm7, h7⟩, kA7, cm7, g7, h7, e7, f7⟩
    · exact ⟨fun N z => ⟨(fun k h => by cases h), kA8, g8, cm8, h8⟩, kA8, cm8, g8, h8, e8, f8⟩
theorem start_St {s : State} {args : Array Value} (hts : ∀ w ∈ lw_tbl, w.before args s = true) (hn : (Jvm.Cond.and given_1 narrow_1).before args s = true) {A : Nat → Prop} (hA : ∀ a : Nat, a < s.heap.size → ¬ A a) : ∃ ad : Nat → Nat, St ad A s s.heap := by
  have hN : ∀ w ∈ fN, w.before args s = true := flat_of_before _ hn
  obtain ⟨aO, hO⟩ := va_Enof (E := "NoodleCanal$OrderState") (d := "LNoodleCanal$OrderState;") (nm := nmO) (F := []) (A := A) (fun i hi => hts _ (n_lsO i hi)) (hts _ (tin_1 _ (List.mem_of_getElem? (i := 12) (by decide +kernel)))) (fun i hi => hN _ (n_exO i hi)) (fun q hq => absurd hq List.not_mem_nil) (fun i j hi hj hij => (n_diO i hi j hj hij).imp (hN _) (hN _)) hA
  obtain ⟨aV, hV, hVe⟩ := va_Enof2 (E := "NoodleCanal$Verb") (d := "LNoodleCanal$Verb;") (nm := nmV) (F := [("java/lang/Enum", "ordinal", "I", [0, 1, 2, 3, 4, 5, 6, 7, 8])]) (A := A) (fun i hi => hts _ (n_lsV i hi)) (hts _ (tin_1 _ (List.mem_of_getElem? (i := 6) (by decide +kernel)))) (fun i hi => hN _ (n_exV i hi)) (fun q hq i hi => by
    have e := List.mem_singleton.mp hq
    subst e
    exact hN _ (n_orV i hi)) (fun i j hi hj hij => (n_diV i hi j hj hij).imp (hN _) (hN _)) hA
  have h0 : ∀ i : Nat, ∃ q : Nat × Nat, i < 22 → (tmS i).eval args s none [] s = some (.ref q.1) ∧ va_O "java/lang/String" q.1 A s s.heap ∧ va_OF "java/lang/String" "coder" "B" (.int 0) q.1 A s s.heap ∧ va_OF "java/lang/String" "value" "[B" (.ref q.2) q.1 A s s.heap ∧ va_T .byte q.2 (lenS.getD i 0) (fun j => .int ((bytS.getD i []).getD j 0)) A s s.heap := by
    intro i
    by_cases hi : i < 22
    · obtain ⟨aK, aB, hS, he⟩ := vk_Sof (N := 1) (tm := fun _ => tmS i) (len := [lenS.getD i 0]) (byt := [bytS.getD i []]) (A := A) (args := args) (s := s) (fun k hk => by
        rw [show k = 0 by omega]
        exact (by decide +kernel : ∀ i, i < 22 → ([lenS.getD i 0] : List Nat).getD 0 0 < 2 ^ 31) i hi) (fun k _ => hN _ (n_ex i hi)) (fun k _ => hN _ (n_co i hi)) (fun k _ => hN _ (n_ar i hi)) (fun k hk => by rw [show k = 0 by omega]; exact hN _ (n_le i hi)) (fun k hk j hj => by
        have hk0 : k = 0 := by omega
        subst hk0
        exact hN _ (n_el i hi j hj)) (fun k j hk hj hkj => by omega) hA
      have hS0 := hS.1 0 (by decide)
      exact ⟨(aK 0, aB 0), fun _ => ⟨he 0 (by decide), hS0.1, hS0.2.1, hS0.2.2.1, hS0.2.2.2⟩⟩
    · exact ⟨(0, 0), fun h => absurd h hi⟩
  obtain ⟨aS, hS⟩ : ∃ aS : Nat → Nat × Nat, ∀ i : Nat, i < 22 → (tmS i).eval args s none [] s = some (.ref (aS i).1) ∧ va_O "java/lang/String" (aS i).1 A s s.heap ∧ va_OF "java/lang/String" "coder" "B" (.int 0) (aS i).1 A s s.heap ∧ va_OF "java/lang/String" "value" "[B" (.ref (aS i).2) (aS i).1 A s s.heap ∧ va_T .byte (aS i).2 (lenS.getD i 0) (fun j => .int ((bytS.getD i []).getD j 0)) A s s.heap := ⟨fun i => Classical.choose (h0 i), fun i => Classical.choose_spec (h0 i)⟩
  obtain ⟨tV, heV, hTV⟩ := va_Tof (tm := .static "NoodleCanal" "VERBS" "[LNoodleCanal$Verb;") (ty := .object "NoodleCanal$Verb") (N := 9) (f := fun j => .ref (aV j)) (A := A) (args := args) (s := s) (by decide) (hN _ (by decide +kernel : Cond.arrayOf (.static "NoodleCanal" "VERBS" "[LNoodleCanal$Verb;") (.object "NoodleCanal$Verb") ∈ fN)) (va_eqt (hN _ (by decide +kernel : Cond.eq (.length (.static "NoodleCanal" "VERBS" "[LNoodleCanal$Verb;")) (.int (Int32.ofNat 9)) ∈ fN))) (fun j hj => va_eqv (hN _ (n_ve j hj)) (hVe j hj)) hA
  obtain ⟨tM, heM, hTM⟩ := va_Tof (tm := .static "NoodleCanal$1" "$SwitchMap$NoodleCanal$Verb" "[I") (ty := .int) (N := 9) (f := fun j => .int (nI (j + 1))) (A := A) (args := args) (s := s) (by decide) (hN _ (by decide +kernel : Cond.arrayOf (.static "NoodleCanal$1" "$SwitchMap$NoodleCanal$Verb" "[I") .int ∈ fN)) (va_eqt (hN _ (by decide +kernel : Cond.eq (.length (.static "NoodleCanal$1" "$SwitchMap$NoodleCanal$Verb" "[I")) (.int (Int32.ofNat 9)) ∈ fN))) (fun j hj => va_eqt (hN _ (n_sm j hj))) hA
  obtain ⟨ad, had⟩ : ∃ z : Nat → Nat, z = fun i => if i < 2100 then aO (i - 2000) else if i < 2200 then aV (i - 2100) else if i < 2300 then (aS (i - 2200)).1 else if i < 2400 then (aS (i - 2300)).2 else if i = 2500 then tV else tM := ⟨_, rfl⟩
  have zO : ∀ i, i < 5 → ad (2000 + i) = aO i := fun i hi => by subst had; show (if 2000 + i < 2100 then aO (2000 + i - 2000) else _) = _; rw [if_pos (by omega), Nat.add_sub_cancel_left]
  have zV : ∀ i, i < 9 → ad (2100 + i) = aV i := fun i hi => by subst had; show (if 2100 + i < 2100 then _ else if 2100 + i < 2200 then aV (2100 + i - 2100) else _) = _; rw [if_neg (by omega), if_pos (by omega), Nat.add_sub_cancel_left]
  have zK : ∀ i, i < 22 → ad (2200 + i) = (aS i).1 := fun i hi => by subst had; show (if 2200 + i < 2100 then _ else if 2200 + i < 2200 then _ else if 2200 + i < 2300 then (aS (2200 + i - 2200)).1 else _) = _; rw [if_neg (by omega), if_neg (by omega), if_pos (by omega), Nat.add_sub_cancel_left]
  have zB : ∀ i, i < 22 → ad (2300 + i) = (aS i).2 := fun i hi => by subst had; show (if 2300 + i < 2100 then _ else if 2300 + i < 2200 then _ else if 2300 + i < 2300 then _ else if 2300 + i < 2400 then (aS (2300 + i - 2300)).2 else _) = _; rw [if_neg (by omega), if_neg (by omega), if_neg (by omega), if_pos (by omega), Nat.add_sub_cancel_left]
  have z5 : ad 2500 = tV := by subst had; rfl
  have z6 : ad 2501 = tM := by subst had; rfl
  clear had
  have hW : ∀ i, i < 9 → va_OF "NoodleCanal$Verb" "word" "Ljava/lang/String;" (.ref (ad (2200 + i))) (ad (2100 + i)) A s s.heap := fun i hi => by
    rw [zK i (by omega), zV i hi]
    exact vk_OFof (hVe i hi) (va_eqv (hN _ (n_woV i hi)) (hS i (by omega)).1) hA
  refine ⟨ad, ⟨va_En_congr zO hO, va_En_congr zV hV⟩, ⟨⟨fun i hi => ?_, fun i j hi hj e => ?_⟩, hW, ?_, ?_, ?_, ?_, ?_, ?_, ?_, ?_⟩, fun q hq => ?_, ?_, fun q hq => ?_, fun x hx => ?_, fun x hx => ?_, fun x hx y hy hxy => ?_⟩
  · have hi : i < 22 := hi
    have w := hS i hi
    show va_O _ (ad (2200 + i)) _ _ _ ∧ va_OF _ _ _ _ (ad (2200 + i)) _ _ _ ∧ va_OF _ _ _ (.ref (ad (2300 + i))) (ad (2200 + i)) _ _ _ ∧ va_T _ (ad (2300 + i)) _ _ _ _ _
    rw [zK i hi, zB i hi]
    exact w.2
  · have hi : i < 22 := hi
    have hj : j < 22 := hj
    have e : ad (2200 + i) = ad (2200 + j) := e
    rw [zK i hi, zK j hj] at e
    by_cases hij : i = j
    · exact hij
    · have hl : ∀ i, i < 22 → lenS.getD i 0 < 1000 := by decide +kernel
      have w := str_inj e (hS i hi).2.2.2.1 (hS j hj).2.2.2.1 (hS i hi).2.2.2.2 (hS j hj).2.2.2.2 (hl i hi) (hl j hj)
      rcases n_di i hi j hj hij with h | ⟨k, hk, h⟩
      · exact absurd w.1 h
      · have := w.2 k hk
        simp only [Value.int.injEq] at this
        exact absurd this h
  · rw [z5]; exact va_Zref (hts _ (tin_6 _ (List.mem_of_getElem? (i := 136) (by decide +kernel)))) (hts _ (tin_1 _ (List.mem_of_getElem? (i := 1) (by decide +kernel)))) heV hA
  · rw [z5]
    obtain ⟨cell, k1, k2, k3, k4, k5, k6, k7⟩ := hTV
    exact ⟨cell, k1, k2, k3, k4, k5, fun j hj => by
      show cell.slots[j]? = some (Value.ref (ad (2100 + j)))
      rw [zV j hj]
      exact k6 j hj, k7⟩
  · rw [z6]; exact va_Zref (hts _ (tin_6 _ (List.mem_of_getElem? (i := 146) (by decide +kernel)))) (hts _ (tin_1 _ (List.mem_of_getElem? (i := 27) (by decide +kernel)))) heM hA
  · rw [z6]; exact hTM
  · exact va_Zof (hts _ (tin_2 _ (List.mem_of_getElem? (i := 103) (by decide +kernel)))) (hts _ (tin_1 _ (List.mem_of_getElem? (i := 13) (by decide +kernel)))) (va_eqi (hN _ (by decide +kernel : Cond.eq (.static "java/lang/String" "COMPACT_STRINGS" "Z") (.int 1) ∈ fN))) hA
  · exact va_Zqof (hts _ (tin_2 _ (List.mem_of_getElem? (i := 119) (by decide +kernel)))) (hts _ (tin_1 _ (List.mem_of_getElem? (i := 15) (by decide +kernel)))) (hN _ (by decide +kernel : Cond.isRef (.static "jdk/internal/util/Preconditions" "SIOOBE_FORMATTER" "Ljava/util/function/BiFunction;") ∈ fN)) hA
  · exact vx_Zqof (hts _ (tin_3 _ (List.mem_of_getElem? (i := 232) (by decide +kernel)))) (hts _ (tin_1 _ (List.mem_of_getElem? (i := 20) (by decide +kernel)))) (hN _ (by decide +kernel : Cond.isRef (.static "java/lang/Throwable" "UNASSIGNED_STACK" "[Ljava/lang/StackTraceElement;") ∈ fN)) hA
  · exact vx_Zqof (hts _ (tin_3 _ (List.mem_of_getElem? (i := 234) (by decide +kernel)))) (hts _ (tin_1 _ (List.mem_of_getElem? (i := 20) (by decide +kernel)))) (hN _ (by decide +kernel : Cond.isRef (.static "java/lang/Throwable" "SUPPRESSED_SENTINEL" "Ljava/util/List;") ∈ fN)) hA
  · obtain ⟨hi, hr⟩ := n_se q hq
    rw [zK _ hi]
    refine vk_R.of (hts _ (n_sr q hq)) ?_
    rcases hr with hr | hr
    · have e1 : q.1 = (repS.getD q.2.2.1 ("", 0)).1 := congrArg Prod.fst hr
      have e2 : q.2.1 = (repS.getD q.2.2.1 ("", 0)).2 := congrArg Prod.snd hr
      rw [e1, e2]
      exact (hS _ hi).1
    · exact va_eqv (hN _ hr) (hS _ hi).1
  · exact va_Nw.of rfl (hts _ (by decide +kernel : Cond.fieldLinkNest "NoodleCanal$Script" 73 "NoodleCanal" "VERBS" "[LNoodleCanal$Verb;" "NoodleCanal" ∈ lw_tbl))
  · exact va_Nw.of rfl (hts _ (n_ne q hq))
  · exact va_Nw.of rfl (hts _ (n_ca x hx))
  · exact va_Nw.of rfl (hts _ (n_de x hx))
  · exact va_Nc.of (hN _ (n_nc x hx y hy hxy))
