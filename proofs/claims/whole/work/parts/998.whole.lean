/-! THE CLAIM OUT OF ONE WALK OF THE LAW'S BODY. Your part is whole_start (and what it stands on); all else here is the same for every law, but numbers. -/
def R_law : String := "NoodleCanalLaw"
def lw_P (b : Addr) (xs : List Int32) (args : Array Value) (s : State) : Prop := args = #[.ref b] ∧ s.IntsAt b xs ∧ xs.length ≤ 3072 ∧ (Jvm.Cond.and given_1 narrow_1).before args s = true
/-- what a walk over the start with the record d0 says of its end, said of the start itself -/
theorem lw_closed {s t : State} {o : Outcome} {d0 : Drawn} {L : List Loc} {k n : Nat} (hd0 : s.drawn.sameBut d0 lw_cs) (hv : ∃ v, o = .returned v) (hW : (s.setDrawn d0).WarmedH t.vm) (hs : (s.setDrawn d0).sameButNew ({ t with vm := s.vm } : State) L k n) : State.butDraws s t lw_cs (fun t1 => Framed s o t1 L k n) := by
  have h2 : t.drawn = d0 := congrArg State.drawn hs.1
  refine ⟨⟨hv, hW, State.sameButNew.setDrawn hs s.drawn⟩, ?_, by decide⟩
  rw [h2]
  exact hd0
def lw_Q (_ : Array Value) (s : State) (o : Outcome) (t : State) : Prop := o = .returned (some (.int 1)) ∧ State.butDraws s t lw_cs (fun t1 => Framed s o t1 [] 601024 7293034)
def lw_Z (below : List Frame) (a : Array Value) (s : State) : State → Prop := fun t => ∃ o, t.status = .running ∧ Ended t below o ∧ lw_Q a s o t
/-- the law's own end, with 1 on the stack, nothing written that was there before, its room as the claim has it; d0: the record of draws at this point (at the entry s.drawn: begin with 'refine W.base ?_' and 'have hd0 := Drawn.sameBut.refl s.drawn lw_cs') -/
theorem lw_ret {p : Program} {l : Launch} {e : Env} {s : State} {m : MethodId} {below : List Frame} {meth : Method} {c : Code} {b : Nat} {d0 : Drawn} (hd0 : s.drawn.sameBut d0 lw_cs) (hx : p.tables.exec = Jvm.exec) (hb : c.code = code) (hr : meth.sig.returnType = ret) (hlocks : meth.locks = false) {pc : Nat} {H : Heap} {ls : Array Slot} (hdg : decode code pc = .ok (.ireturn, 1)) : W p l e room_1 (s.setDrawn d0) m #[Value.ref b] below meth c H [] 601024 7293034 (lw_Z below #[Value.ref b] s) (F0 m pc ls [.int 1]) := by
  intro T hT X
  obtain ⟨fs, hret, hrun, hended, hW, hframe⟩ := X.leave (v := some (.int 1)) (hlocks := hlocks) (fun h => by rw [hr] at h; cases h)
  have hmeth' : T.vm.method? m = some meth := X.method'
  refine ⟨T.setFrames fs, ?_, .returned (some (.int 1)), hrun, hended, rfl, lw_closed hd0 ⟨_, rfl⟩ hW hframe⟩
  jvm_step X.here [X.here.top, hx, hb, hdg, hmeth', hr, ret, narrow_b1]
  (try refine ⟨rfl, ?_⟩); (try refine ⟨rfl, ?_⟩)
  first | (intro acts; rw [hret _ acts rfl rfl rfl]) | rw [hret _ _ rfl rfl rfl]
  exact Steps.refl _
/-- what holds at the law's entry: the machine, the code, the tables' words (any of lw_tbl by 'hts w (by decide +kernel)'), the script of L ints xs at the cell b, what the Statement gives of the start (any of its parts by flat_of_before) -/
def lw_At (p : Program) (s : State) (m : MethodId) (meth : Method) (c : Code) (b L : Nat) (xs : Nat → Int32) : Prop :=
  p.tables.exec = Jvm.exec ∧ c.code = code ∧ meth.sig.returnType = ret ∧ c.maxLocals = 9 ∧ s.vm.findClass R_law = some m.cls ∧ (∀ w ∈ lw_tbl, w.before #[Value.ref b] s = true) ∧ va_X b L xs s s.heap ∧ b < s.heap.size ∧ meth.locks = false ∧ (Jvm.Cond.and given_1 narrow_1).before #[Value.ref b] s = true

theorem le_6 {L i : Nat} (hL : L ≤ 3072) (hi : i ≤ 3072) : (nI L - 6 < nI i) ↔ L < i + 6 := by
  have e6 : nI L - 6 = Int32.ofInt ((L : Int) - 6) := by
    apply Int32.toInt_inj.1
    rw [Int32.toInt_sub, nI_toInt (by omega), Int32.toInt_ofInt]
    rfl
  rw [Int32.lt_iff_toInt_lt, e6, nI_toInt (by omega), Int32.toInt_ofInt_of_le (by omega) (by omega)]
  omega
theorem law_loop {p : Program} {e : Env} {s : State} {m : MethodId} {below : List Frame} {meth : Method} {c : Code} {l : Launch} {b L : Nat} {xs : Nat → Int32} {D : va_G} {tc : Nat → ClassId} {ad : Nat → Nat} (hfl : l.stackTraces = false) (hL : L ≤ 3072) (E : Ev p s m #[Value.ref b] meth c D tc ad RL cL_law 9) (hb : c.code = code) (hr : meth.sig.returnType = ret) (hlocks : meth.locks = false) (hX : va_X b L xs s s.heap) (hbl : b < s.heap.size) (hbA : ¬ A0 ad s.heap.size b) (hA : ∀ q, A0 ad s.heap.size q → s.heap.size ≤ q) : ∀ r t cells slots M, t ≤ 512 → L < 6 * (t + r) + 6 → 6 * t ≤ L → Inv (BB * t) M → cells + 16 * r ≤ 601024 → slots + 96 * r ≤ 7293034 → Wa p l e room_1 s m #[Value.ref b] below meth c cells slots (lw_Z below #[Value.ref b] s) D tc ad 9 M 23 [(4, .int (nI (6 * t))), (3, .ref (ad 710)), (2, .ref (ad 699)), (1, .ref (ad 0)), (0, .ref b)] [] := by
  have exit' : ∀ t cells slots M, cells ≤ 601024 → slots ≤ 7293034 → Wa p l e room_1 s m #[Value.ref b] below meth c cells slots (lw_Z below #[Value.ref b] s) D tc ad 9 M 3279 [(4, .int (nI (6 * t))), (3, .ref (ad 710)), (2, .ref (ad 699)), (1, .ref (ad 0)), (0, .ref b)] [] := fun t cells slots M h1 h2 => by
    refine ra_iconst (v := 1) E dL_law_3279 (by decide) ?_
    intro H locs ls hP hS h
    refine va_forget (fun q hq => hA _ (hS.2.2 q hq)) ?_
    refine W.base ?_
    refine W.widen (k := 601024) (n := 7293034) h1 h2 ?_
    exact lw_ret (Drawn.sameBut.refl s.drawn lw_cs) E.1 hb hr hlocks dL_law_3280
  have test : ∀ t cells slots M, t ≤ 512 → (L < 6 * t + 6 → Wa p l e room_1 s m #[Value.ref b] below meth c cells slots (lw_Z below #[Value.ref b] s) D tc ad 9 M 3279 [(4, .int (nI (6 * t))), (3, .ref (ad 710)), (2, .ref (ad 699)), (1, .ref (ad 0)), (0, .ref b)] []) → (6 * t + 6 ≤ L → Wa p l e room_1 s m #[Value.ref b] below meth c cells slots (lw_Z below #[Value.ref b] s) D tc ad 9 M 33 [(4, .int (nI (6 * t))), (3, .ref (ad 710)), (2, .ref (ad 699)), (1, .ref (ad 0)), (0, .ref b)] []) → Wa p l e room_1 s m #[Value.ref b] below meth c cells slots (lw_Z below #[Value.ref b] s) D tc ad 9 M 23 [(4, .int (nI (6 * t))), (3, .ref (ad 710)), (2, .ref (ad 699)), (1, .ref (ad 0)), (0, .ref b)] [] := fun t cells slots M ht h1 h2 => by
    refine ra_iload E dL_law_23 0 rfl ?_
    refine ra_aload_n E dL_law_25 rfl 4 rfl ?_
    refine ra_slen E hX hbl hbA dL_law_26 ?_
    refine ra_bipush (v := 6) E dL_law_27 (by decide) ?_
    refine ra_isub E dL_law_29 ?_
    refine ra_icmp_gt (tgt := 3279) E dL_law_30 (by decide) (fun q => h1 ?_) (fun q => h2 ?_)
    · exact (le_6 hL (by omega)).1 q
    · exact Nat.le_of_not_lt (fun hlt => q ((le_6 hL (by omega)).2 hlt))
  intro r
  induction r with
  | zero =>
    intro t cells slots M ht h1 h2 g hc hs
    exact test t cells slots M ht (fun _ => exit' t cells slots M (by omega) (by omega)) (fun h => absurd h (by omega))
  | succ r ih =>
    intro t cells slots M ht h1 h2 g hc hs
    refine test t cells slots M ht (fun _ => exit' t cells slots M (by omega) (by omega)) (fun h6 => ?_)
    have hw : ∀ k, k < 6 → vp_in (nI (6 * t + k)) L := fun k hk => vp_in_nI (by omega) (by omega)
    have hw0 : vp_in (nI (6 * t)) L := hw 0 (by decide)
    have hw1 : vp_in (nI (6 * t) + 1) L := by rw [nI_1]; exact hw 1 (by decide)
    have hw2 : vp_in (nI (6 * t) + 2) L := by rw [p2n]; exact hw 2 (by decide)
    have hw3 : vp_in (nI (6 * t) + 3) L := by rw [p3n]; exact hw 3 (by decide)
    have hw4 : vp_in (nI (6 * t) + 4) L := by rw [p4n]; exact hw 4 (by decide)
    have hw5 : vp_in (nI (6 * t) + 5) L := by rw [show nI (6 * t) + (5 : Int32) = nI (6 * t + 5) from nI_add _ 5]; exact hw 5 (by decide)
    refine ra_aload_n E dL_law_33 rfl 4 rfl ?_
    refine ra_iload E dL_law_34 0 rfl ?_
    refine ra_sld E hX hbl hbA hw0 dL_law_36 ?_
    refine ra_bipush (v := 63) E dL_law_37 (by decide) ?_
    refine ra_iand E dL_law_39 ?_
    have hT : BB * t + BB + 1 < 2 ^ 31 := by
      have : BB * t ≤ BB * 512 := Nat.mul_le_mul_left _ ht
      have e1 : BB * 512 = 118540800 := by decide
      have e2 : BB = 231525 := rfl
      omega
    refine l_law_sw (K := fun M' => Inv (BB * t + BB) M') E hfl hX hbl hbA hw0 hw1 hw2 hw3 hw4 hw5 ⟨by decide, by decide⟩ ⟨?_, ?_⟩ (fun M' hM' => ?_) M (fl_all g hT)
    · show cells + 16 ≤ 601024
      omega
    · show slots + 96 ≤ 7293034
      omega
    · refine ra_iinc (v := nI (6 * (t + 1))) E dL_law_3273 0 rfl ?_ (by decide) rfl ?_
      · show nI (6 * t) + Int32.ofInt 6 = nI (6 * (t + 1))
        rw [show Int32.ofInt 6 = nI 6 from by decide, nI_add]
        congr 1
      · refine ra_goto (tgt := 23) E dL_law_3276 (by decide) ?_
        exact ih (t + 1) (cells + 16) (slots + 96) M' (by omega) (by omega) (by omega) hM' (by omega) (by omega)
theorem whole_start {p : Program} {e : Env} {s : State} {m : MethodId} {below : List Frame} {meth : Method} {c : Code} (l : Launch) (hflags : l.flags = flags0) {b L : Nat} {xs : Nat → Int32} (hL : L ≤ 3072) (C0 : lw_At p s m meth c b L xs) : W p l e room_1 s m #[Value.ref b] below meth c s.heap [] 0 0 (lw_Z below #[Value.ref b] s) (entryFrame m ([Value.ref b] : List Value).toArray 9) := by
  obtain ⟨hx, hb, hr, hml, hown, hts, hX, hbl, hlocks, hgv⟩ := C0
  have hfl : l.stackTraces = false := by
    unfold Launch.stackTraces
    rw [hflags]
    decide +kernel
  obtain ⟨D, tc, hK⟩ := start_K hts
  obtain ⟨ad0, hSt⟩ := start_St hts hgv (A := Ab s) (fun a ha => Nat.not_le.mpr ha)
  have hTS : ∀ w ∈ TS, w.before #[Value.ref b] s = true := fun w h => hts w (List.mem_filter.mp h).1
  have E : El p s m #[Value.ref b] meth c D tc ad0 := ⟨hx, hb, hml, hown, hTS, hK, hSt, hlocks, fun C hC => va_AO.of (hts _ (n_ao C hC))⟩
  have hl := lv_entry ([Value.ref b]) (n := 9) (Nat.le_of_ble_eq_true rfl)
  rw [lg_entry_eq]
  generalize (lg_sl ([Value.ref b]) ++ List.replicate (9 - (lg_sl ([Value.ref b])).length) Slot.unset).toArray = ls at hl ⊢
  have start : Wc p l e room_1 s m #[Value.ref b] below meth c 0 0 (lw_Z below #[Value.ref b] s) D (Ab s) 9 ad0 (fun _ => .inr (0, [])) 0 0 [(0, .ref b)] [] := by
    refine rl_new (ci := 8) (fs := [.null, .null, .null, .null, .int 0, .null, .null, .null, .int 0]) (N := 9) E rfl iT_12 tyX12 tyX12_ok lc_8 ki_X12 kn_X12 (fun j hj => by rcases (show j = 0 ∨ j = 1 ∨ j = 2 ∨ j = 3 ∨ j = 4 ∨ j = 5 ∨ j = 6 ∨ j = 7 ∨ j = 8 by omega) with rfl | rfl | rfl | rfl | rfl | rfl | rfl | rfl | rfl <;> rfl) ⟨by decide, by decide⟩ dL_law_0 (fun q1 ad1 ct1 f0 f1 f2 f3 => ?_)
    refine rl_dup E dL_law_3 rfl ?_
    refine rl_ctor (n0 := 0) E (c_X12_init _ (first12 (K := fun M' => (∀ i, i ≠ 1 → i ≠ 2 → (i < 576 ∨ 637 ≤ i) → M' i = mMain i) ∧ M' 1 1 = 0 ∧ M' 1 6 = 0 ∧ M' 1 7 = -1 ∧ RelC 576 M' Y8) (fun M' a1 a2 a3 a4 a5 => ⟨a1, a2, a3, a4, a5⟩))) yc_X12_init cn_X12_init ml_L_155 rfl f0 (fun i hi => f1 i (by omega)) (fun k hk => absurd hk (Nat.not_lt_zero _)) (fun ad' k hk => absurd hk (Nat.not_lt_zero _)) f2 (by decide) (Nat.le_of_ble_eq_true rfl) ⟨by decide, by decide⟩ ⟨by decide, by decide⟩ dL_law_4 (fun ad2 M2 g1 g2 => ?_)
    obtain ⟨a1, a2, a3, a4, a5⟩ := g2
    have e20 : ad2 0 = q1 := (g1 0 (Or.inl (Nat.le_refl _))).trans f0
    refine rl_astore_n (i := 1) E dL_law_7 rfl (by decide) rfl ?_
    refine rl_new (ci := 9) (fs := [.null, .null, .null, .null, .null, .null, .null, .int 0, .int 0, .int 0, .int 0, .int 0, .null, .int 0, .null, .int 0, .int 0, .int 0, .int 0, .int 0, .int 0, .int 0, .int 0, .int 0, .null, .null, .int 0, .int 0]) (N := 28) E rfl iT_13 tyX13 tyX13_ok lc_156 ki_X13 kn_X13 (by decide +kernel) ⟨by decide, by decide⟩ dL_law_8 (fun q2 ad3 ct3 f4 f5 f6 f7 => ?_)
    refine rl_dup E dL_law_11 rfl ?_
    have m0 : M2 0 = rMain := (a1 0 (by decide) (by decide) (by decide)).trans rfl
    have c5 : ∀ k, k = 0 → (M2 k 5).toNatClampNeg ≤ 10 ∧ (M2 k 6).toNatClampNeg ≤ 10 := fun k e => by
      rw [e, m0]
      exact ⟨by decide, by decide⟩
    refine rl_ctor (n0 := 699) (M := M2) (K := fun M' => Inv 0 M') E (c_X13_init M2 _ (first_inv a1 a2 a3 a4 a5 (fun M' h => h))) yc_X13_init cn_X13_init ml_L_158 rfl f4 (fun i hi => ?_) (fun k hk => ?_) (fun ad' k hk h => cel_eqv (B := 698) (Nat.le_refl _) (Or.inl hk) (fun i hi => h i (by omega)) (c5 k) (fun e => absurd hk (by omega))) f6 (by decide) (Nat.le_of_ble_eq_true rfl) ⟨by decide, by decide⟩ ⟨by decide, by decide⟩ dL_law_12 (fun ad4 M4 g3 g4 => ?_)
    · rw [f5 i (by omega), g1 i (Or.inr hi), f1 i (by omega)]
    · rw [f7 k (by omega)]
      exact cel_eqv (B := 698) (Nat.le_refl _) (Or.inl hk) (fun i hi => f5 i (by omega)) (c5 k) (fun e => absurd hk (by omega))
    refine rl_astore_n (i := 2) E dL_law_15 rfl (by decide) rfl ?_
    refine rl_iconst (v := 1) E dL_law_16 (by decide) ?_
    refine rl_newa (N' := 1) E (by decide) (by decide) (by decide) ⟨by decide, by decide⟩ dL_law_17 (fun q3 ad5 ct5 f8 f9 f10 f11 => ?_)
    refine rl_astore_n (i := 3) E dL_law_19 rfl (by decide) rfl ?_
    have g4' : Inv 0 M4 := g4
    obtain ⟨ci, di, nx, h, k1, -⟩ := id g4'
    have k1a := k1.1
    have i5 : Inv 0 (uR M4 710 r0) := g4'.tmp (fun i hi => uR_n (by omega)) (fun j _ _ => by rw [uR_n (by decide)]) (uR_n (by decide)) (uR_n (by decide)) (uR_n (by decide)) (uR_n (by decide)) (uR_n (by decide))
    refine rl_enter (M := uR M4 710 r0) E (fun i hi => ?_) (fun k hk => ?_) (fun hA Ee => ?_)
    · rw [f9 i (by omega), g3 i (Or.inr hi), f5 i (by omega), g1 i (Or.inr hi), f1 i (by omega)]
    · by_cases e : k = 710
      · subst e
        rw [f10, uR_s, cel_710]
        exact Or.inl rfl
      · rw [f11 k e, uR_n e]
        refine cel_eqv (B := 709) (by decide) (Or.inr ⟨Nat.le_refl _, by omega⟩) (fun i hi => (put_n (by omega)).trans (f9 i (by omega))) (fun e0 => ?_) (fun e9 => ?_)
        · rw [e0, k1.2.1, k1.2.2.1, nI_clamp (by omega), nI_clamp (by omega)]
          omega
        · rw [e9, k1.2.2.2.1]
          decide
    · have w0 : put ad5 1999 711 0 = q1 := by rw [put_n (by decide), f9 0 (by decide), g3 0 (by decide), f5 0 (by decide)]; exact e20
      have w699 : put ad5 1999 711 699 = q2 := by rw [put_n (by decide), f9 699 (by decide), g3 699 (by decide)]; exact f4
      have w710 : put ad5 1999 711 710 = q3 := by rw [put_n (by decide)]; exact f8
      refine ra_iconst (v := 0) Ee dL_law_20 (by decide) ?_
      refine ra_istore (i := 4) Ee dL_law_21 (by decide) rfl ?_
      have hbA : ¬ A0 (put ad5 1999 711) s.heap.size b := fun hb' => absurd (hA b hb') (Nat.not_le.mpr hbl)
      have go := law_loop (l := l) (e := e) (below := below) (L := L) (xs := xs) hfl hL Ee hb hr hlocks hX hbl hbA hA 512 0 (0 + 1 + 698 + 1 + 10 + 1) (0 + 9 + 5599 + 28 + 5542 + 1) (uR M4 710 r0) (by decide) (by omega) (by omega) i5 (by decide) (by decide)
      rw [w0, w699, w710] at go
      exact go
  exact start s.heap [] ls (fun k q hk => absurd (Wg_inv hk).1 (Nat.not_lt_zero _)) ⟨fun i j x y hi => absurd (Wg_inv hi).1 (Nat.not_lt_zero _), fun k q hk => absurd (Wg_inv hk).1 (Nat.not_lt_zero _)⟩ va_S.rf hl
set_option maxHeartbeats 4000000 in
theorem lw_walk (l : Launch) (hflags : l.flags = flags0) (b : Addr) (xs : List Int32) : MetFree l x (headSpec (Jvm.Cond.code x code maxLocals ret :: tables_1) room_1) (lw_P b xs) (fun _ _ _ _ _ => True) lw_Q := by
  refine MetFree.of_bodyS (code := code) (maxLocals := maxLocals) (ret := ret) (by decide) ?_ ?_
  · intro args s m h hn
    obtain ⟨meth, c, h1, h2, h3, h4, h5, h6, -, -⟩ := Cond.code_spec hn (atoms_spec (ws := Jvm.Cond.code x code maxLocals ret :: tables_1) h _ List.mem_cons_self)
    exact ⟨meth, c, h1, h2, h3, h4, h5, h6⟩
  · intro p e s m args below meth c s₁ B hml0 hP _
    obtain ⟨rfl, hx, hbd, hgv⟩ := hP
    obtain ⟨scr, harrAt, hlist, hof, hsmall⟩ := hx
    obtain ⟨hcb, hkn, -, -⟩ := State.arrayAt?_spec harrAt
    have hown : s.vm.findClass R_law = some m.cls := findClass_of_methodNamed B.named
    have hts0 : ∀ c ∈ (Jvm.Cond.code x code maxLocals ret :: tables_1), c.before #[Value.ref b] s = true := atoms_spec (ws := Jvm.Cond.code x code maxLocals ret :: tables_1) B.pre
    have hts : ∀ w ∈ lw_tbl, w.before #[Value.ref b] s = true := k2_hts_sels lw_privs (fun w hw => hts0 w (List.mem_cons_of_mem _ hw)) lw_privs_ok
    have hml : c.maxLocals = 9 := B.maxLocals_eq (hts0 _ List.mem_cons_self)
    have X₀ : Stand p l e room_1 s m #[Value.ref b] below meth c s₁ [] 0 0 := Stand.of_body B
    have hh0 : s₁.heap = s.heap := by rw [B.state]; rfl
    have hsz : scr.slots.size = xs.length := by rw [← Array.length_toList, hlist, List.length_map]
    have hval : ∀ j : Nat, j < xs.length → scr.slots[j]? = some (.int (xs.getD j 0)) := fun j hj => by
      rw [← Array.getElem?_toList, hlist]
      simp [hj]
    have hbl : b < s.heap.size := (Array.getElem?_eq_some_iff.mp hcb).1
    have hX : va_X b xs.length (fun j => xs.getD j 0) s s.heap := ⟨scr, hcb, hof, hkn, hsz, hval⟩
    have K : W p l e room_1 s m #[Value.ref b] below meth c s₁.heap [] 0 0 (lw_Z below #[Value.ref b] s) (entryFrame m ([Value.ref b] : List Value).toArray 9) := by
      rw [hh0]
      exact whole_start l hflags hbd ⟨B.exec, B.bytes, B.returns, hml, hown, hts, hX, hbl, B.notSynchronized, hgv⟩
    obtain ⟨t, a1, o, b1, b2, b3⟩ := K s₁ rfl X₀
    exact ⟨t, o, a1, b1, b2, b3⟩
theorem lw_pre_spec {args : Array Value} {s : State} (h : (Jvm.Cond.and given_1 narrow_1).before args s = true) (hr : rest_1_c.before args s = true) : ∃ (b : Addr) (xs : List Int32), lw_P b xs args s := by
  have hs := flat_of_before _ h
  have hq := flat_of_before _ hr
  have hc : (Cond.count 1).before args s = true := hs _ (by decide +kernel)
  have harr : (Cond.arrayOf (.arg 0) .int).before args s = true := hs _ (by decide +kernel)
  have hle : (Cond.le (.length (.arg 0)) (.int 3072)).before args s = true := hs _ (by decide +kernel)
  have hlen : (Cond.isInt (.length (.arg 0))).before args s = true := hq _ (by decide +kernel)
  have hall : (Cond.all (.arg 0) (.isInt (.elem (.arg 0) (.index 0)))).before args s = true := hq _ (by decide +kernel)
  obtain ⟨b, xs, hb, hx⟩ := State.ints_of_pre rfl harr hlen hall
  have hsm : xs.length < 2 ^ 31 := hx.choose_spec.2.2.2
  have hev : (Term.length (.arg 0)).eval args s none [] s = some (.int xs.length.toInt32) := hx.length_eval hb
  have hv := Cond.le_ints hev (show (Term.int 3072).eval args s none [] s = some (.int 3072) from rfl)
  have hd : xs.length.toInt32 ≤ 3072 := by
    simpa [Cond.before, Cond.holds, hv] using hle
  have hN : xs.length ≤ 3072 := (Int32.ofNat_le_ofNat hsm (by decide)).mp (show Int32.ofNat xs.length ≤ Int32.ofNat 3072 from hd)
  exact ⟨b, xs, Cond.one_arg hc (show args[0]? = some (.ref b) from hb), hx, hN, h⟩
theorem lw_comes (l : Launch) (hflags : l.flags = flags0) : Comes l x (Jvm.Cond.code x code maxLocals ret :: tables_1) room_1 (fun tb e args s => Calls_1 tb e args s ∧ rest_1 tb e args s ∧ Pre_1 tb e args s)
    (fun _ _ args s o t => lw_Q args s o t) := by
  intro p e ha hc hk s m args below hf hfit hheap happ hpre
  obtain ⟨b, xs, hP⟩ := lw_pre_spec hpre.2.2 hpre.2.1
  obtain ⟨k, o, h1, h2, h3, hQ⟩ := lw_walk l hflags b xs p e ha hc hk s m args below hf ((Spec.applies_iff_loose hf).mp happ).1 hP trivial
  exact ⟨k, o, h1, h2, h3, hQ⟩
theorem lw_frame {s t : State} {o : Outcome} {args : Array Value} (h : State.butDraws s t lw_cs (fun t1 => Framed s o t1 [] 601024 7293034)) :
    State.butDraws s t [Jvm.Choice.named "NaN.bits"] (fun t1 => Framed s o t1 (fieldLocs frame_1_writes args s ++ arrayLocs frame_1_arrays args s ++ staticLocs frame_1_statics s) 601024 7293034) := h
theorem lw_limb (L : Cond) (hL : ∀ (args : Array Value) (s t : State), L.after args s (.returned (some (.int 1))) t = true) :
    ArmFor flags0 classFile x code maxLocals ret World_1 tables_1 room_1 Calls_1 rest_1 Pre_1
      (fun tb e a s o t => postC L tb e a s o t ∧ State.butDraws s t [Jvm.Choice.named "NaN.bits"] (fun t1 => Framed s o t1 (fieldLocs frame_1_writes a s ++ arrayLocs frame_1_arrays a s ++ staticLocs frame_1_statics s) 601024 7293034)) := by
  intro l hflags _ _ p e ha hc hk s m args below hf hfit hheap happ hpre
  obtain ⟨k, o, h1, h2, h3, rfl, hF⟩ := lw_comes l hflags p e ha hc hk s m args below hf hfit hheap happ hpre
  exact ⟨k, _, h1, h2, h3, hL args s _, lw_frame hF⟩
theorem i_vc : Claimed_1_1 ∧ Claimed_1_2 := ⟨lw_limb limb_1_1 (fun args s t => by simp [limb_1_1, Cond.after, Cond.holds, Cond.value]), lw_limb limb_1_2 (fun args s t => Cond.after_iff.mpr (by
  first | (rw [show limb_1_2 = Cond.eq .result (.int 1) from rfl, Cond.eq_ints (x := 1) (y := 1) rfl rfl]; simp; done) | (simp [limb_1_2, Cond.value, Term.eval]; done)))⟩
