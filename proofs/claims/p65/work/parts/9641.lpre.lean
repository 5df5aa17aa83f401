/-! p65: the law from its start to its rounds -/
section LAWPRE
variable {p : Program} {l : Launch} {e : Env} {R : Room} {s : State} {m : MethodId} {args : Array Value} {below : List Frame} {meth : Method} {c : Code} {LL sb t1 t2 : Nat} {Q : State → Prop} {D : va_G} {tc : Nat → ClassId} {ad0 : Nat → Nat} {ct0 : Nat → va_E} {xs : Nat → Int32}
theorem law_pre (E : El p s m args meth c D tc ad0) (hTSp : ∀ w ∈ TSp, w.before args s = true) {cS : ClassId} {iS : Nat → Nat} (hJ4 : u_Kn s RJ4 TJ4 4 cS iS) (hB : StB ad0 t1 t2 (Ab s) s s.heap) (hX : va_X sb LL xs s s.heap) (hbl : sb < s.heap.size) (hLL : LL < 2 ^ 31) (hR : 15 ≤ R.frames ∧ 578 ≤ R.locals) (hRc : 2000 ≤ R.cells ∧ 600000 ≤ R.slots)
    (fin : ∀ ad M cells slots L, Ev p s m args meth c D tc ad RL cL_law 13 → (∀ q, A0 ad s.heap.size q → s.heap.size ≤ q) → cells ≤ 1300 ∧ slots ≤ 550000 → Wa p l e R s m args below meth c cells slots Q D tc ad 13 M 735 L [.int 1]) :
    Wc p l e R s m args below meth c 0 0 Q D (Ab s) 13 ad0 ct0 0 0 [(0, .ref sb)] [] := by
  refine rl_new (ci := 8) (fs := [.null, .null, .null, .null, .int 0, .null, .null, .null, .int 0]) (N := 9) E rfl iT_12 tyX12 tyX12_ok lc_9 ki_X12 kn_X12 (fun j hj => by rcases (show j = 0 ∨ j = 1 ∨ j = 2 ∨ j = 3 ∨ j = 4 ∨ j = 5 ∨ j = 6 ∨ j = 7 ∨ j = 8 by omega) with rfl | rfl | rfl | rfl | rfl | rfl | rfl | rfl | rfl <;> rfl) ⟨by omega, by omega⟩ dL_law_0 (fun q1 ad1 ct1 f0 f1 f2 f3 => ?_)
  refine rl_dup E dL_law_3 rfl ?_
  refine rl_ctor (n0 := 0) E (c_X12_init _ (first65 (K := fun M' => (∀ i, i ≠ 1 → i ≠ 2 → (i < 576 ∨ 637 ≤ i) → M' i = mMain i) ∧ M' 1 1 = 0) (fun M' a b => ⟨a, b⟩))) cd_X12_init cn_X12_init ml_L_189 rfl f0 (fun i hi => f1 i (by omega)) (fun k hk => absurd hk (Nat.not_lt_zero _)) (fun ad' k hk => absurd hk (Nat.not_lt_zero _)) f2 (by decide) (Nat.le_of_ble_eq_true rfl) ⟨by omega, by omega⟩ ⟨by omega, by omega⟩ dL_law_4 (fun ad2 M2 g1 g2 => ?_)
  obtain ⟨a1, a2⟩ := g2
  have e20 : ad2 0 = q1 := (g1 0 (Or.inl (Nat.le_refl _))).trans f0
  refine rl_astore_n (i := 1) (L' := [(1, .ref q1), (0, .ref sb)]) E dL_law_7 rfl (by decide) rfl ?_
  refine rl_bipush (v := 6) E dL_law_8 kb_6 ?_
  refine rl_newa (N' := 6) E (by decide) (by decide) (by decide) ⟨by omega, by omega⟩ dL_law_10 (fun q3 ad3 ct3 f8 f9 f10 f11 => ?_)
  refine rl_astore_n (i := 2) (L' := [(2, .ref q3), (1, .ref q1), (0, .ref sb)]) E dL_law_12 rfl (by decide) rfl ?_
  intro H0 locs0 ls0 hP0 hD0 hS0 hl0
  refine va_forget (fun q hq => hS0.2.2 q hq) ?_
  obtain ⟨N, hN⟩ : ∃ N, N = H0.size := ⟨_, rfl⟩
  obtain ⟨DB, hDB⟩ : ∃ z : va_G, z = (fun q => if q = 0 then cS else D.1 9, fun q => if q = 0 then iS else D.2 9) := ⟨_, rfl⟩
  have dB1 : DB.1 1 = D.1 9 := by rw [hDB]; rfl
  have dB2 : DB.2 1 = D.2 9 := by rw [hDB]; rfl
  have dB3 : DB.1 0 = cS := by rw [hDB]; rfl
  have dB4 : DB.2 0 = iS := by rw [hDB]; rfl
  clear hDB
  have hK := E.2.2.2.2.2.1
  have hKB : va_K DB clB (tyB (tc 0)) s := by
    refine ⟨fun q r hq => ?_, fun q r hq => ?_⟩
    · have hlt : q < 2 := (List.getElem?_eq_some_iff.mp hq).1
      rcases (show q = 0 ∨ q = 1 by omega) with rfl | rfl
      · have er := Option.some.inj (show some ((RJ4, TJ4, 4) : vw_C) = some r from hq)
        subst er
        rw [dB3, dB4]
        exact hJ4
      · have er := Option.some.inj (show some ((RJ0, TJ0, 4) : vw_C) = some r from hq)
        subst er
        rw [dB1, dB2]
        exact hK.1 9 _ rfl
    · have hlt : q < 1 := (List.getElem?_eq_some_iff.mp hq).1
      have q0 : q = 0 := by omega
      subst q0
      have er := Option.some.inj (show some ((tc 0, FieldType.byte) : ClassId × FieldType) = some r from hq)
      subst er
      exact hK.2 0 _ rfl
  have hSz : s.heap.size ≤ N := by rw [hN]; exact hS0.1
  have hAN : ∀ q, AN N q → Ab s q := fun q hq => Nat.le_trans hSz hq
  have E9 : Eq9 p s m args meth c D DB tc ad0 t1 t2 N H0 := ⟨E.1, E.2.1, E.2.2.1, E.2.2.2.1, hTSp, hKB, hB.narrow hAN, fun q hq => hq, E.2.2.2.2.2.2.2.1, E.2.2.2.2.2.2.1.2.2, hSz, by rw [hN]; exact Nat.le_refl _⟩
  obtain ⟨TA, hTA⟩ : ∃ z, z = txAll (NPv LL xs) (nBv LL xs) (nOv LL xs) (fsA LL xs) (fbA LL xs (NPv LL xs)) (foA LL xs (NPv LL xs)) := ⟨_, rfl⟩
  refine lq_all (arr := q3) (can := q1) E9 hX hbl hLL ⟨by omega, by omega⟩ ⟨by omega, by omega⟩ hRc hTA (fun bb k cells slots x d q f a g hc hT hg => ?_) H0 [] ls0 (fun k q hk => absurd (List.getElem?_eq_some_iff.mp hk).1 (Nat.not_lt_zero _)) ⟨fun i j x y hi => absurd (List.getElem?_eq_some_iff.mp hi).1 (Nat.not_lt_zero _), fun k q hk => absurd (List.getElem?_eq_some_iff.mp hk).1 (Nat.not_lt_zero _)⟩ ⟨hS0.1, fun q h1 h2 => hS0.2.1 q h1 (fun z => absurd h1 (Nat.not_lt.mpr z)), fun _ h => absurd h List.not_mem_nil⟩ ⟨by rw [hN]; exact Nat.le_refl _, fun _ _ => rfl⟩ hl0
  intro H locs ls hP hD hS hG h
  have hx : N ≤ x := hD.2 2 _ rfl
  have ha : N ≤ a := hD.2 3 _ rfl
  have hxa : x ≠ a := fun z => absurd (hD.1 2 3 _ _ rfl rfl z) (by decide)
  have hlt : ∀ k, k < 700 → ad3 k < N := fun k hk => by rw [hN]; exact (hP0 k _ (Wg_at hk)).lt
  have hkeep : ∀ k, k < 700 → H[ad3 k]? = H0[ad3 k]? := fun k hk => hG.2 _ (hlt k hk)
  obtain ⟨adF, hadF⟩ : ∃ z : Nat → Nat, z = fun i => if i = 700 then x else if i = 701 then a else if i = 1701 then TA.length else if i = 1999 then 702 else ad3 i := ⟨_, rfl⟩
  have z700 : adF 700 = x := by rw [hadF]; rfl
  have z701 : adF 701 = a := by rw [hadF]; rfl
  have z1701 : adF 1701 = TA.length := by rw [hadF]; rfl
  have zn : nW adF = 702 := by rw [hadF]; rfl
  have zo : ∀ i, i ≠ 700 → i ≠ 701 → i ≠ 1701 → i ≠ 1999 → adF i = ad3 i := fun i h1 h2 h3 h4 => by
    rw [hadF]
    show (if i = 700 then x else if i = 701 then a else if i = 1701 then TA.length else if i = 1999 then 702 else ad3 i) = _
    rw [if_neg h1, if_neg h2, if_neg h3, if_neg h4]
  clear hadF
  obtain ⟨MF, hMF⟩ : ∃ z : TM, z = fun k => if k = 701 then g else if 699 ≤ k then (fun _ => 0) else M2 k := ⟨_, rfl⟩
  have y701 : MF 701 = g := by rw [hMF]; rfl
  have y700 : MF 700 = fun _ => 0 := by rw [hMF]; rfl
  have y699 : MF 699 = fun _ => 0 := by rw [hMF]; rfl
  have yo : ∀ k, k < 699 → MF k = M2 k := fun k hk => by
    rw [hMF]
    show (if k = 701 then g else if 699 ≤ k then (fun _ => 0) else M2 k) = _
    rw [if_neg (by omega), if_neg (by omega)]
  clear hMF
  have val : ∀ i, i < 702 → (i = 700 ∧ adF i = x) ∨ (i = 701 ∧ adF i = a) ∨ (i < 700 ∧ adF i = ad3 i ∧ ad3 i < N) := fun i hi => by
    by_cases i0 : i = 700
    · subst i0; exact Or.inl ⟨rfl, z700⟩
    by_cases i1 : i = 701
    · subst i1; exact Or.inr (Or.inl ⟨rfl, z701⟩)
    exact Or.inr (Or.inr ⟨by omega, zo i i0 i1 (by omega) (by omega), hlt i (by omega)⟩)
  have hIn : Inj adF := by
    intro i j hi hj ee
    rw [zn] at hi hj
    rcases val i hi with ⟨i1, i2⟩ | ⟨i1, i2⟩ | ⟨i1, i2, i3⟩ <;> rcases val j hj with ⟨j1, j2⟩ | ⟨j1, j2⟩ | ⟨j1, j2, j3⟩
    · omega
    · omega
    · omega
    · omega
    · omega
    · omega
    · omega
    · omega
    · exact hD0.1 i j _ _ (Wg_at i1) (Wg_at j1) (show ad3 i = ad3 j by omega)
  have hAF : ∀ q, A0 adF s.heap.size q → s.heap.size ≤ q := fun q hq => by
    rcases hq with ⟨k, hk, rfl⟩ | hq
    · rw [zn] at hk
      rcases val k hk with ⟨k1, k2⟩ | ⟨k1, k2⟩ | ⟨k1, k2, k3⟩
      · omega
      · omega
      · rw [k2]
        exact hD0.2 k _ (Wg_at k1)
    · exact hq
  have up : ∀ i, 2000 ≤ i → adF i = ad0 i := fun i hi => by
    rw [zo i (by omega) (by omega) (by omega) (by omega), f9 i (by omega), g1 i (Or.inr hi), f1 i (by omega)]
  have EF : Ev p s m args meth c D tc adF RL cL_law 13 := ⟨E.1, E.2.1, E.2.2.1, E.2.2.2.1, E.2.2.2.2.1, hK, hIn, St_up2 up (E.2.2.2.2.2.2.1.narrow (fun q hq => hAF q hq)), E.2.2.2.2.2.2.2.1, by rw [zn]; decide +kernel⟩
  have hPF : va_P D vwCl (Wd tc adF MF) H := by
    intro k q hk
    obtain ⟨hl, rfl⟩ := Wd_inv hk
    rw [zn] at hl
    by_cases k700 : k < 700
    · rw [zo k (by omega) (by omega) (by omega) (by omega)]
      by_cases k699 : k = 699
      · subst k699
        have hc1 := hP0 699 _ (Wg_at (show 699 < 700 by decide))
        rw [f10] at hc1
        rw [y699, cel_699]
        exact hc1.kept (hkeep 699 (by decide))
      · have hc1 := hP0 k _ (Wg_at k700)
        rw [f11 k k699] at hc1
        rw [yo k (by omega)]
        refine (va_at_eqv (cel_eqv0 (by omega) (fun i hi => ?_) (fun e0 => ?_)) hc1).kept (hkeep k k700)
        · rw [zo i (by omega) (by omega) (by omega) (by omega), f9 i (by omega)]
        · rw [e0, a1 0 (by decide) (by decide) (by decide)]
          decide
    · rcases (show k = 700 ∨ k = 701 by omega) with rfl | rfl
      · rw [cel_700, y700, z700]
        unfold eStr
        rw [z701]
        have hc1 := hP 2 _ rfl
        obtain ⟨r, hr, ho⟩ := hc1
        have er := Option.some.inj (show some ((RJ0, TJ0, 4) : vw_C) = some r from hr)
        subst er
        rw [show DB.1 1 = D.1 9 from dB1, show DB.2 1 = D.2 9 from dB2] at ho
        show va_at D vwCl (x, .inr (9, [.ref a, .int 0, .int 0, .int (bz 0)])) H
        rw [bz_0]
        exact ⟨(RJ0, TJ0, 4), rfl, ho⟩
      · rw [cel_701, y701, z701, z1701]
        exact hP 3 _ rfl
  have hSF : va_S (A0 adF s.heap.size) s.heap H locs := ⟨hS.1, fun q h1 h2 => hS.2.1 q h1 (fun z => h2 (Or.inr (hAN q z))), fun y hy => Or.inr (hAN _ (hS.2.2 y hy))⟩
  have w699 : adF 699 = q3 := (zo 699 (by decide) (by decide) (by decide) (by decide)).trans f8
  have w0 : adF 0 = q1 := ((zo 0 (by decide) (by decide) (by decide) (by decide)).trans (f9 0 (by decide))).trans e20
  have go := ph3 (l := l) (e := e) (below := below) (R := R) (Q := Q) (cells := cells) (slots := slots) (bb := bb) (k := k) (v := cv LL xs 0) (M := MF) EF zn hAF hX hbl hLL hR hRc hTA hT z1701 (fun i i1 i2 i3 i4 => (yo i i4).trans (a1 i i1 i2 i3)) (by rw [yo 1 (by decide)]; exact a2) y699 (by rw [y700]) (fun j hj => by rw [y701]; exact hg j hj) hc fin
  rw [z700, w699, w0] at go
  exact go H locs ls hPF hSF h
end LAWPRE
