/-! p65: the law before its text: pc 0..12, and from there to its rounds -/
theorem lc_9 : Cond.classLink RL 9 RX12 ∈ TS := TS_of (tin_1 _ (List.mem_of_getElem? (i := 31) (by decide +kernel))) (by decide +kernel)
def Ab (s : State) : Nat → Prop := fun q => s.heap.size ≤ q
def El (p : Program) (s : State) (m : MethodId) (args : Array Value) (meth : Method) (c : Code) (D : va_G) (tc : Nat → ClassId) (ad0 : Nat → Nat) : Prop :=
  p.tables.exec = Jvm.exec ∧ c.code = cL_law ∧ c.maxLocals = 13 ∧ s.vm.findClass RL = some m.cls ∧ (∀ w ∈ TS, w.before args s = true) ∧ va_K D vwCl (tysN tc) s ∧ St ad0 (Ab s) s s.heap ∧ meth.locks = false ∧ (∀ C ∈ aoN, va_AO C s)
/-- a cell of the class looks at no address but the class's -/
theorem cel_eqv0 {tc : Nat → ClassId} {ad ad' : Nat → Nat} {k : Nat} {R : Nat → Int32} (hk : k < 699) (h : ∀ i, i ≤ 698 ∨ 2000 ≤ i → ad' i = ad i) (h5 : k = 0 → (R 5).toNatClampNeg ≤ 10 ∧ (R 6).toNatClampNeg ≤ 10) : Eqv (cel tc ad k R) (cel tc ad' k R) := by
  have arr : ∀ (f g : Nat → Nat) (n : Nat) (t : ClassId), (∀ j, j < n → g j = f j) → Eqv (ars f n t) (ars g n t) := fun f g n t e => Or.inr ⟨t, n, _, _, rfl, rfl, fun j hj => by rw [e j hj]⟩
  have same : ∀ x y : va_E, y = x → Eqv x y := fun x y e => Or.inl e.symm
  have mid : 27 ≤ k → k < 698 → Eqv (cel tc ad k R) (cel tc ad' k R) := fun a1 a2 => by
    rw [cel_mid tc ad a1 a2, cel_mid tc ad' a1 a2]
    obtain ⟨r, er⟩ : ∃ r, r = (k - 27) % 61 := ⟨_, rfl⟩
    rw [← er]
    have hr : r < 61 := by omega
    unfold celC
    by_cases r0 : r = 0
    · rw [if_pos r0, if_pos r0]
      refine same _ _ ?_
      unfold eCanal
      rw [h (k + 1) (by omega), h (k + 2) (by omega), h (k + 3) (by omega), h (k + 4) (by omega), h (k + 5) (by omega)]
    rw [if_neg r0, if_neg r0]
    by_cases r1 : r = 1
    · rw [if_pos r1, if_pos r1]
      exact arr _ _ _ _ (fun j hj => h _ (by omega))
    rw [if_neg r1, if_neg r1]
    by_cases r2 : r = 2
    · rw [if_pos r2, if_pos r2]
      exact Eqv.rf _
    rw [if_neg r2, if_neg r2]
    by_cases r3 : r = 3
    · rw [if_pos r3, if_pos r3]
      exact Eqv.rf _
    rw [if_neg r3, if_neg r3]
    by_cases r4 : r = 4
    · rw [if_pos r4, if_pos r4]
      exact arr _ _ _ _ (fun j hj => h _ (by omega))
    rw [if_neg r4, if_neg r4]
    by_cases r5 : r = 5
    · rw [if_pos r5, if_pos r5]
      exact arr _ _ _ _ (fun j hj => h _ (by omega))
    rw [if_neg r5, if_neg r5]
    by_cases r21 : r < 21
    · rw [if_pos r21, if_pos r21]
      exact Eqv.rf _
    rw [if_neg r21, if_neg r21]
    by_cases r31 : r < 31
    · rw [if_pos r31, if_pos r31]
      by_cases ro : r % 2 = 1
      · rw [if_pos ro, if_pos ro]
        refine same _ _ ?_
        unfold eBarge
        rw [h (k + 1) (by omega)]
      · rw [if_neg ro, if_neg ro]
        exact Eqv.rf _
    rw [if_neg r31, if_neg r31]
    refine same _ _ ?_
    unfold eOrder
    rw [h (2000 + (R 6).toNatClampNeg) (by omega)]
  by_cases k27 : 27 ≤ k
  · by_cases k698 : k < 698
    · exact mid k27 k698
    · have hk' : k = 698 := by omega
      subst hk'
      exact Eqv.rf _
  · by_cases k5 : 5 ≤ k ∧ k < 25
    · rw [cel_cmd tc ad (show IsCmd k from k5), cel_cmd tc ad' (show IsCmd k from k5)]
      refine same _ _ ?_
      unfold eCommand
      rw [h (2100 + (R 0).toNatClampNeg) (by omega)]
    · have hk' : k = 0 ∨ k = 1 ∨ k = 2 ∨ k = 3 ∨ k = 4 ∨ k = 25 ∨ k = 26 := by omega
      rcases hk' with rfl | rfl | rfl | rfl | rfl | rfl | rfl
      · have hc := h5 rfl
        rw [cel_0, cel_0]
        refine same _ _ ?_
        unfold eMain
        rw [h 1 (by omega), h 3 (by omega), h 25 (by omega), h 515 (by omega), h (27 + 61 * (R 5).toNatClampNeg) (by omega), h (27 + 61 * (R 6).toNatClampNeg) (by omega), h 698 (by omega)]
      · rw [cel_1, cel_1]
        refine same _ _ ?_
        unfold eText
        rw [h 2 (by omega)]
      · exact Eqv.rf _
      · rw [cel_3, cel_3]
        refine same _ _ ?_
        unfold eScript
        rw [h 4 (by omega)]
      · rw [cel_4, cel_4]
        exact arr _ _ _ _ (fun j hj => h _ (by omega))
      · rw [cel_25, cel_25]
        refine same _ _ ?_
        unfold eHistory
        rw [h 26 (by omega)]
      · rw [cel_26, cel_26]
        exact arr _ _ _ _ (fun j hj => h _ (by omega))
section RLW
variable {p : Program} {l : Launch} {e : Env} {R : Room} {s : State} {m : MethodId} {args : Array Value} {below : List Frame} {meth : Method} {c : Code} {cells slots : Nat} {Q : State → Prop} {D : va_G} {tc : Nat → ClassId} {ad0 ad : Nat → Nat} {ct : Nat → va_E} {n pc : Nat} {L : List (Nat × Value)} {st : List Value}
theorem rl_dup (E : El p s m args meth c D tc ad0) {va : Value} (d : decode cL_law pc = .ok (.dup, 1)) (hva : va.category = 1) (kk : Wc p l e R s m args below meth c cells slots Q D (Ab s) 13 ad ct n (pc + 1) L (va :: va :: st)) : Wc p l e R s m args below meth c cells slots Q D (Ab s) 13 ad ct n pc L (va :: st) := fun H locs ls hP hD hS h => lv_dup E.1 E.2.1 d hva (kk H locs ls hP hD hS h)
theorem rl_astore_n (E : El p s m args meth c D tc ad0) {k : Fin 4} {i x : Nat} {L' : List (Nat × Value)} (d : decode cL_law pc = .ok (.astore_n k, 1)) (hi : (k : Nat) = i) (hn : i < 13) (hl : (i, Value.ref x) :: L.filter (fun q => !(q.1 == i) && !(q.1 + 1 == i && q.2.category == 2)) = L') (kk : Wc p l e R s m args below meth c cells slots Q D (Ab s) 13 ad ct n (pc + 1) L' st) : Wc p l e R s m args below meth c cells slots Q D (Ab s) 13 ad ct n pc L (.ref x :: st) := fun H locs ls hP hD hS h => lv_astore_n E.1 E.2.1 d hi h hn hl (fun ls' h' => kk H locs ls' hP hD hS h')
theorem rl_new (E : El p s m args meth c D tc ad0) {ci N idx : Nat} {C : String} {T : u_T} {fs : List Value} (hcl : vwCl[ci]? = some (C, T, N)) (hin : ∀ w ∈ u_ws C T N, w ∈ TS) (ty : Nat → FieldType) (hty : ∀ k, k < N → parseFieldDescriptor (T k).2.2.1 = some (ty k)) (hl : Cond.classLink RL idx C ∈ TS) (hi : Cond.instantiable C N ∈ TS) (hini : Cond.initialized C ∈ TS) (hfs : ∀ j, j < N → defaultValue (ty j) = vp_V fs j) (hcs : cells + 1 ≤ R.cells ∧ slots + N ≤ R.slots) (d : decode cL_law pc = .ok (.new idx, 3)) (kk : ∀ (q : Nat) (ad' : Nat → Nat) (ct' : Nat → va_E), ad' n = q → (∀ i, i ≠ n → ad' i = ad i) → ct' n = .inr (ci, fs) → (∀ i, i ≠ n → ct' i = ct i) → Wc p l e R s m args below meth c (cells + 1) (slots + N) Q D (Ab s) 13 ad' ct' (n + 1) (pc + 3) L (.ref q :: st)) : Wc p l e R s m args below meth c cells slots Q D (Ab s) 13 ad ct n pc L st := fun H locs ls hP hD hS h => va_new (ci := ci) (fs := fs) E.1 E.2.1 E.2.2.2.2.1 hin ty hty E.2.2.2.1 (E.2.2.2.2.1 _ hl) (E.2.2.2.2.1 _ hi) (E.2.2.2.2.1 _ hini) E.2.2.2.2.2.1 hP hD hS (fun q hq => hq) hcl hfs hcs.1 hcs.2 d (fun q H1 hP1 hD1 hS1 => kk q _ _ (put_s _ _ _) (fun i hi => put_n hi) (put_s _ _ _) (fun i hi => put_n hi) H1 locs ls (by rw [Wg_push] at hP1; exact hP1) (by rw [Wg_push] at hD1; exact hD1) hS1 h)
theorem rl_newa (E : El p s m args meth c D tc ad0) {z : Int32} {N' : Nat} (hn : ¬ z < 0) (hN : z.toNatClampNeg = N') (hby : N' * 8 ≤ 536870912) (hcs : cells + 1 ≤ R.cells ∧ slots + N' ≤ R.slots) (d : decode cL_law pc = .ok (.newarray .int, 2)) (kk : ∀ (q : Nat) (ad' : Nat → Nat) (ct' : Nat → va_E), ad' n = q → (∀ i, i ≠ n → ad' i = ad i) → ct' n = .inl (tc 1, N', .inl (fun _ => 0)) → (∀ i, i ≠ n → ct' i = ct i) → Wc p l e R s m args below meth c (cells + 1) (slots + N') Q D (Ab s) 13 ad' ct' (n + 1) (pc + 2) L (.ref q :: st)) : Wc p l e R s m args below meth c cells slots Q D (Ab s) 13 ad ct n pc L (.int z :: st) := fun H locs ls hP hD hS h => va_newa (atype := .int) (ty := .int) (a0 := (N', .inl (fun _ => 0))) E.1 E.2.1 (E.2.2.2.2.1 _ jr_int) rfl E.2.2.2.2.2.1 hP hD hS (fun q hq => hq) (fun cA => rfl) hn hN (Nat.le_trans (Nat.mul_le_mul_left _ (by decide)) hby) hcs.1 hcs.2 d (fun q cA H1 hK1 hP1 hD1 hS1 => by
  have hc := tc_eq (t := 1) hK1 rfl
  subst hc
  exact kk q _ _ (put_s _ _ _) (fun i hi => put_n hi) (put_s _ _ _) (fun i hi => put_n hi) H1 locs ls (by rw [Wg_push] at hP1; exact hP1) (by rw [Wg_push] at hD1; exact hD1) hS1 h)
theorem rl_ctor (E : El p s m args meth c D tc ad0) {y : MethodName} {bytes : ByteArray} {maxL d0 mc0 ms0 idx n0 n1 a : Nat} {fr : va_E} {M : TM} {K : TM → Prop} (hM : MN y bytes maxL d0 mc0 ms0 n0 n1 fr M K) (hcd : Cond.code y bytes maxL none ∈ TS) (hy : CN y) (hl : Cond.methodLink RL idx y ∈ TS) (hn : n = n0 + 1) (ha : ad n0 = a) (hup : ∀ i, 2000 ≤ i → ad i = ad0 i) (hct : ∀ k, k < n0 → Eqv (ct k) (cel tc ad k (M k))) (hce : ∀ (ad' : Nat → Nat) k, k < n0 → (∀ i, i ≤ n0 ∨ 2000 ≤ i → ad' i = ad i) → Eqv (cel tc ad k (M k)) (cel tc ad' k (M k))) (hfr : ct n0 = fr) (hmx : maxL ≤ 21) (hcat : (st.map fun v => v.category).sum ≤ 8) (hR : d0 + 1 ≤ R.frames ∧ 40 * (d0 + 1) ≤ R.locals) (hcs : cells + mc0 ≤ R.cells ∧ slots + ms0 ≤ R.slots) (d : decode cL_law pc = .ok (.invokespecial idx, 3)) (kk : ∀ (ad' : Nat → Nat) (M' : TM), (∀ i, i ≤ n0 ∨ 2000 ≤ i → ad' i = ad i) → K M' → Wc p l e R s m args below meth c (cells + mc0) (slots + ms0) Q D (Ab s) 13 ad' (fun k => cel tc ad' k (M' k)) n1 (pc + 3) L st) : Wc p l e R s m args below meth c cells slots Q D (Ab s) 13 ad ct n pc L (.ref a :: st) := by
  intro H locs ls hP hD hS h
  subst hn; subst ha
  have hG : GoodIn TS (Cond.code y bytes maxL none :: TS) := TS_good fun w hw => (List.mem_cons.mp hw).elim (fun e => e ▸ hcd) id
  obtain ⟨ct1, e1⟩ : ∃ ct1 : Nat → va_E, ct1 = fun k => if k < n0 then cel tc ad k (M k) else ct k := ⟨_, rfl⟩
  have e1a : ∀ k, k < n0 → ct1 k = cel tc ad k (M k) := fun k hk => by rw [e1]; exact if_pos hk
  have e1b : ct1 n0 = ct n0 := by rw [e1]; exact if_neg (Nat.lt_irrefl _)
  have hP1 : va_P D vwCl (Wg ad ct1 (n0 + 1)) H := fun k q hk => by
    obtain ⟨hlt, rfl⟩ := Wg_inv hk
    have hq := hP k _ (Wg_at hlt)
    by_cases hk0 : k < n0
    · rw [e1a k hk0]
      exact va_at_eqv (hct k hk0) hq
    · have : k = n0 := by omega
      subst this
      rw [e1b]
      exact hq
  have toAb : ∀ q, A1 ad n0 H.size q → Ab s q := fun q hq => by
    rcases hq with ⟨k, hk, rfl⟩ | hq
    · exact hD.2 k _ (Wg_at (show k < n0 + 1 by omega))
    · exact Nat.le_trans hS.1 hq
  have hD1 : va_D (A1 ad n0 H.size) (Wg ad ct1 (n0 + 1)) := by
    refine ⟨fun i j x y hi hj hxy => ?_, fun k q hk => ?_⟩
    · obtain ⟨i1, rfl⟩ := Wg_inv hi
      obtain ⟨j1, rfl⟩ := Wg_inv hj
      exact hD.1 i j _ _ (Wg_at i1) (Wg_at j1) hxy
    · obtain ⟨k1, rfl⟩ := Wg_inv hk
      exact Or.inl ⟨k, by omega, rfl⟩
  refine va_callv (va_runI (As := []) (rest := st) ⟨E.1, E.2.1, E.2.2.1, E.2.2.2.1, E.2.2.2.2.1⟩ (hM l D tc ad ct1 H.size e1a hce (e1b.trans hfr)) (cwI 0 E.2.2.2.2.1 hG rfl rfl rfl (E.2.2.2.2.1 _ hy.1) (E.2.2.2.2.1 _ hl) (E.2.2.2.2.1 _ hy.2.1) hy.2.2.1 ⟨hy.2.2.2.1, hy.2.2.2.2.1, hy.2.2.2.2.2⟩ ⟨hR.1, by show 8 + (maxL + 11) + 40 * d0 ≤ R.locals; omega⟩) ⟨prec_blind, fun U hU hW => ⟨rfl, ?_⟩⟩ rfl rfl h.1 rfl (lv_room hcat) d ⟨hcs.1, hcs.2⟩) hS (fun q _ hq => toAb q hq) toAb (fun u t H1 locs1 ht hvm hw hB hz1 hk1 hS1 => ?_)
  · refine ⟨by rw [hU], by rw [hU]; exact hP1, hD1, by rw [hU]; exact fun q hq => Or.inr hq, va_K.moved hW.alike E.2.2.2.2.2.1, ?_, fun C hC => va_AO.moved hW.alike (E.2.2.2.2.2.2.2.2 C hC)⟩
    rw [hU]
    have hS0 : St ad0 (Ab s) U H := ((E.2.2.2.2.2.2.1.kept (fun a h1 h2 => hS.2.1 a h1 h2))).warm hW
    exact St_up2 hup (hS0.narrow toAb)
  · obtain ⟨w1, w2, w3, w4, w5⟩ := hw
    have hB' : va_P D vwCl (Wd tc u.1 u.2) t.heap := hB
    have eW : Wd tc u.1 u.2 = Wg u.1 (fun k => cel tc u.1 k (u.2 k)) n1 := by rw [← w2]; rfl
    refine kk u.1 u.2 w1 w5 H1 locs1 ls (by rw [← ht, ← eW]; exact hB') ⟨fun i j x y hi hj hxy => ?_, fun k q hk => ?_⟩ hS1 h
    · obtain ⟨i1, rfl⟩ := Wg_inv hi
      obtain ⟨j1, rfl⟩ := Wg_inv hj
      exact w3 i j (by rw [w2]; exact i1) (by rw [w2]; exact j1) hxy
    · obtain ⟨k1, rfl⟩ := Wg_inv hk
      exact toAb _ ((w4 _).mp (Or.inl ⟨k, by rw [w2]; exact k1, rfl⟩))
theorem rl_bipush (E : El p s m args meth c D tc ad0) {z : Int} {v : Int32} (d : decode cL_law pc = .ok (.bipush z, 2)) (hv : (Int8.ofInt z).toInt32 = v) (kk : Wc p l e R s m args below meth c cells slots Q D (Ab s) 13 ad ct n (pc + 2) L (.int v :: st)) : Wc p l e R s m args below meth c cells slots Q D (Ab s) 13 ad ct n pc L st := fun H locs ls hP hD hS h => lv_bipush E.1 E.2.1 d hv (kk H locs ls hP hD hS h)
end RLW
