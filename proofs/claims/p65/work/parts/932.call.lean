/-! p65: 'all' makes a new row and fills it -/
def QG (D : va_G) (tc : Nat → ClassId) (ad : Nat → Nat) (len : Nat) (K : TM → Prop) (sz : Nat) : Array Value → State → Outcome → State → Prop :=
  va_Qr (S := TM) K (fun M' a t => sz ≤ a ∧ Inj (adG ad a len) ∧ va_P D vwCl (Wd tc (adG ad a len) M') t.heap) (A0 ad sz)
def MG (ad : Nat → Nat) (len : Nat) (M : TM) (K : TM → Prop) : Prop :=
  Lim RL ≤ nW ad → ∀ (l : Launch) (D : va_G) (tc : Nat → ClassId) (sz : Nat), Met l yL_all (Cond.code yL_all cL_all 7 (some (.array .int)) :: TS) (rmC 10 1 200) (va_Pc [.ref (ad 0)] (fun U => U.heap.size = sz ∧ PreW D tc ad M U)) (QG D tc ad len K sz) 1 200 (A0 ad sz)
section CALLALL
variable {p : Program} {l : Launch} {e : Env} {R : Room} {s : State} {m : MethodId} {args : Array Value} {below : List Frame} {meth : Method} {c : Code} {cells slots : Nat} {Q : State → Prop} {D : va_G} {tc : Nat → ClassId} {ad : Nat → Nat} {a len nL : Nat} {own : String} {cc : ByteArray} {pc : Nat} {L : List (Nat × Value)} {st : List Value} {M LM : TM} {T h : Nat} {RR S : Nat → Int32} {hr : Nat → Nat → Int32} {sb : Bool} {K : TM → Prop}
theorem PV.m056 (g : PV LM T RR h hr sb S M) : (M 0 5).toNatClampNeg ≤ 10 ∧ (M 0 6).toNatClampNeg ≤ 10 := by
  obtain ⟨⟨ci, di, nx, g1, -⟩, -⟩ := g
  have h1 := g1.1
  rw [g1.2.1, g1.2.2.1, nI_clamp (by omega), nI_clamp (by omega)]
  omega
theorem PV.uR (g : PV LM T RR h hr sb S M) {k : Nat} {r : Nat → Int32} (hk : 699 ≤ k) : PV (uR M k r) T RR h hr sb S (uR M k r) := g.fr (fun i hi => uR_n (by omega)) (fun _ _ => rfl)
theorem c_L_all (hn : 702 ≤ nW ad) (hlt : nW ad < 900) (g : PV LM T RR h hr sb S M) (hl : len = aLen RR) (hK : ∀ M', AI M T RR h hr sb S (nW ad) (aLen RR) M' → K M') : MG ad len M K := by
  intro hlim l D tc sz
  have w := g.w
  have n16 := w.np16
  have n5 := w.nb5
  have n30 := w.no30
  have hl' : len = 5 + 7 * nb RR + 4 * no RR + np RR := hl
  refine Met.ofW (cc := cL_all) (maxL := 7) (ret := some (.array .int)) (by decide +kernel) rfl ?_
  intro p e s m args below meth c s₁ B hml hv
  obtain ⟨rfl, hsz, hP, hK', hI, hS⟩ := hv
  subst hsz
  have hts := atoms_spec (ws := Cond.code yL_all cL_all 7 (some (.array .int)) :: TS) B.pre
  have hts : ∀ w ∈ TS, w.before [Value.ref (ad 0)].toArray s = true := fun w h => hts w (List.mem_cons_of_mem _ h)
  have ho : s.vm.findClass RL = some m.cls := findClass_of_methodNamed B.named
  have hl0 := lv_entry [Value.ref (ad 0)] (n := 7) (Nat.le_of_ble_eq_true rfl)
  rw [lg_entry_eq]
  generalize (lg_sl [Value.ref (ad 0)] ++ List.replicate (7 - (lg_sl [Value.ref (ad 0)]).length) Slot.unset).toArray = ls at hl0 ⊢
  have E : Ev p s m [Value.ref (ad 0)].toArray meth c D tc ad RL cL_all 7 := ⟨B.exec, B.bytes, hml, ho, hts, hK', hI, hS, B.notSynchronized, hlim⟩
  have hr' : meth.sig.returnType = some (.array .int) := B.returns
  suffices body : Wa p l e (rmC 10 1 200) s m [Value.ref (ad 0)].toArray below meth c 0 0 (MQ below (QG D tc ad len K s.heap.size) [Value.ref (ad 0)].toArray s 1 200 (A0 ad s.heap.size)) D tc ad 7 M 0 (lv_args 0 [Value.ref (ad 0)]) [] from body s.heap [] ls hP va_S.rf hl0
  refine ra_aload_n E dL_all_0 rfl 0 rfl ?_
  refine ra_callIV (rest := []) E (c_X12_bargeCount M (fun r M' => r = RR 2 ∧ M' = M) (t_bargeCount g ⟨rfl, rfl⟩)) (lq_X12 _) cv_X12_bargeCount ml_L_30 (by decide) (lm (by decide)) (fun R => ⟨_, cel_0 tc ad R⟩) rfl rfl rfl (Nat.le_of_ble_eq_true rfl) ⟨Nat.le_of_ble_eq_true rfl, Nat.le_of_ble_eq_true rfl⟩ ⟨Nat.zero_le _, Nat.zero_le _⟩ dL_all_1 (fun r M' h => ?_)
  obtain ⟨rfl, rfl⟩ := h
  refine ra_istore_n (L' := [(1, _), (0, _)]) E dL_all_4 rfl (by decide) rfl ?_
  refine ra_aload_n E dL_all_5 rfl 1 rfl ?_
  refine ra_callIV (rest := []) E (c_X12_orderCount M' (fun r M1 => r = RR 3 ∧ M1 = M') (t_orderCount g ⟨rfl, rfl⟩)) (lq_X12 _) cv_X12_orderCount ml_L_33 (by decide) (lm (by decide)) (fun R => ⟨_, cel_0 tc ad R⟩) rfl rfl rfl (Nat.le_of_ble_eq_true rfl) ⟨Nat.le_of_ble_eq_true rfl, Nat.le_of_ble_eq_true rfl⟩ ⟨Nat.zero_le _, Nat.zero_le _⟩ dL_all_6 (fun r M1 h => ?_)
  obtain ⟨rfl, rfl⟩ := h
  refine ra_istore_n (L' := [(2, _), (1, _), (0, _)]) E dL_all_9 rfl (by decide) rfl ?_
  refine ra_aload_n E dL_all_10 rfl 2 rfl ?_
  refine ra_callIV (rest := []) E (c_X12_placeCount M1 (fun r M2 => r = RR 1 ∧ M2 = M1) (t_placeCount g ⟨rfl, rfl⟩)) (lq_X12 _) cv_X12_placeCount ml_L_36 (by decide) (lm (by decide)) (fun R => ⟨_, cel_0 tc ad R⟩) rfl rfl rfl (Nat.le_of_ble_eq_true rfl) ⟨Nat.le_of_ble_eq_true rfl, Nat.le_of_ble_eq_true rfl⟩ ⟨Nat.zero_le _, Nat.zero_le _⟩ dL_all_11 (fun r M2 h => ?_)
  obtain ⟨rfl, rfl⟩ := h
  refine ra_istore_n (L' := [(3, _), (2, _), (1, _), (0, _)]) E dL_all_14 rfl (by decide) rfl ?_
  refine ra_iconst E dL_all_15 ki_5 ?_
  refine ra_bipush E dL_all_16 kb_7 ?_
  refine ra_iload_n E dL_all_18 rfl 2 rfl ?_
  refine ra_imul E dL_all_19 ?_
  refine ra_iadd E dL_all_20 ?_
  refine ra_iconst E dL_all_21 ki_4 ?_
  refine ra_iload_n E dL_all_22 rfl 1 rfl ?_
  refine ra_imul E dL_all_23 ?_
  refine ra_iadd E dL_all_24 ?_
  refine ra_iload_n E dL_all_25 rfl 0 rfl ?_
  refine ra_iadd E dL_all_26 ?_
  refine ra_newaG (len := len) E hn (by omega) g.m056 ?_ (by omega) ⟨Nat.le_of_ble_eq_true rfl, by show 0 + len ≤ 200; omega⟩ dL_all_27 (fun q hq E' => ?_)
  · rw [w.1.1.1.1, w.1.1.2.1.1, w.1.1.2.2.1, hl']
    show nI 5 + nI 7 * nI (nb RR) + nI 4 * nI (no RR) + nI (np RR) = _
    rw [nI_mul, nI_mul, nI_add, nI_add, nI_add]
  · refine ra_astore (L' := [(4, _), (3, _), (2, _), (1, _), (0, _)]) E' dL_all_29 (by decide) rfl ?_
    have hI' := E'.2.2.2.2.2.2.1
    have en : adG ad q len (nW ad) = q := adG_n
    have e0 : ad 0 = adG ad q len 0 := (adG_o (by omega) (by omega) (by omega)).symm
    have hA := A0_G (ad := ad) (len := len) (by omega : nW ad < 999) hq
    have h4 : KeptA (adG ad q len) (nW ad) len := ⟨hn, by rw [nW_G (by omega)]; exact Nat.lt_succ_self _, adG_len⟩
    have g' := g.uR (k := nW ad) (r := fun _ => 0) (by omega)
    have h31 := a_31 (KV := K) w (by omega) hl (⟨g', fun i h1 h2 => uR_n h2, fun i hi => absurd hi (Nat.not_lt_zero i)⟩ : AI M2 T RR h hr sb S (nW ad) 0 (uR M2 (nW ad) (fun _ => 0))) hK
    generalize hG : adG ad q len = ad' at E' hI' en e0 hA h4 h31 ⊢
    have hL : ([(4, Value.ref q), (3, .int (RR 1)), (2, .int (RR 3)), (1, .int (RR 2)), (0, .ref (ad 0))] : List (Nat × Value)) = [(4, .ref (ad' (nW ad))), (3, .int (RR 1)), (2, .int (RR 3)), (1, .int (RR 2)), (0, .ref (ad' 0))] := by rw [en, e0]
    rw [hL]
    refine ra_sub (L' := [(0, _), (1, _), (2, _), (3, _), (4, _)]) [4, 3, 2, 1, 0] rfl ?_
    refine l_L_all_L31 (nW ad) len h4 E' hr' ⟨Nat.le_of_ble_eq_true rfl, Nat.le_of_ble_eq_true rfl⟩ ⟨Nat.le_of_ble_eq_true rfl, by show 0 + len ≤ 200; omega⟩ (fun L3 M3 hK3 => ?_) _ _ _ _ h31
    intro H3 locs3 ls3 hP3 hS3 _
    have hS4 := va_S_iff hA hS3
    refine W.widen (k := 1) (n := 200) (by omega) (by omega) (W.aret (v := .ref (ad' (nW ad))) E.1 E.2.1 hr' (Or.inr ⟨.int, rfl⟩) (Or.inr ⟨_, rfl⟩) (fun t ht _ => ⟨⟨M3, ad' (nW ad), rfl, hK3, ?_⟩, hS4.F ht⟩) hS4.2.2 dL_all_341 E.2.2.2.2.2.2.2.2.1)
    show s.heap.size ≤ ad' (nW ad) ∧ Inj (adG ad (ad' (nW ad)) len) ∧ va_P D vwCl (Wd tc (adG ad (ad' (nW ad)) len) M3) t.heap
    rw [en, hG, ht]
    exact ⟨hq, hI', hP3⟩
theorem ra_callAll (E : Ev p s m args meth c D tc ad own cc nL) (hn : 702 ≤ nW ad) (hlt : nW ad < 900) (ho : own = RL) {idx : Nat} {rest stk : List Value} (hM : MG ad len M K) (hl : Cond.methodLink own idx yL_all ∈ TS) (hst : stk = .ref (ad 0) :: rest) (hcat : (rest.map fun v => v.category).sum ≤ 8) (hR : 11 ≤ R.frames ∧ 440 ≤ R.locals) (hcs : cells + 1 ≤ R.cells ∧ slots + 200 ≤ R.slots) (d : decode cc pc = .ok (.invokestatic idx, 3)) (kk : ∀ q M', s.heap.size ≤ q → K M' → Ev p s m args meth c D tc (adG ad q len) own cc nL → Wa p l e R s m args below meth c (cells + 1) (slots + 200) Q D tc (adG ad q len) nL M' (pc + 3) L (.ref q :: rest)) : Wa p l e R s m args below meth c cells slots Q D tc ad nL M pc L stk := by
  intro H locs ls hP hS h
  subst hst ho
  have hlks := GT_S (own := RL) ct_L_all hl
  obtain ⟨-, -, -, c2, c3, c4⟩ := ct_L_all
  refine va_callr (va_runS (As := [.ref (ad 0)]) (rest := rest) ⟨E.1, E.2.1, E.2.2.1, E.2.2.2.1, E.2.2.2.2.1⟩ (hM E.2.2.2.2.2.2.2.2.2 l D tc H.size) (va_cwS 1 E.2.2.2.2.1 hlks rfl rfl rfl ⟨c2, c3, c4⟩ ⟨hR.1, by show 8 + (7 + 11) + 40 * 10 ≤ R.locals; omega⟩) ⟨pre_blind, fun U hU hW => ⟨rfl, pre_at E hP hS hU hW⟩⟩ rfl rfl h.1 rfl (lv_room hcat) d ⟨hcs.1, hcs.2⟩) hS (fun q _ hq => A0_mono hS.1 q hq) (fun q hq => A0_mono hS.1 q hq) (fun u ra t H1 locs1 ht hvm hw hB hz1 hk1 hS1 => ?_)
  have hq : s.heap.size ≤ ra := Nat.le_trans hS.1 hB.1
  exact kk ra u hq hw (ev_grow E (by omega) hq hB.2.1) H1 locs1 ls (by rw [← ht]; exact hB.2.2) (va_S_iff (fun x => (A0_G (by omega) hq x).symm) hS1) h
end CALLALL
