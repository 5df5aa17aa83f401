/-! p65: the law's rounds, its snapshot, its end -/
section ROUND4
variable {p : Program} {l : Launch} {e : Env} {R : Room} {s : State} {m : MethodId} {args : Array Value} {below : List Frame} {meth : Method} {c : Code} {cells slots : Nat} {Q : State → Prop} {D : va_G} {tc : Nat → ClassId} {ad : Nat → Nat} {nL b LL k : Nat} {xs : Nat → Int32} {M : TM} {T0 P : Nat}
theorem rd_end (E : Ev p s m args meth c D tc ad RL cL_law 13) (hR : 15 ≤ R.frames ∧ 578 ≤ R.locals) (hRc : 2000 ≤ R.cells ∧ 600000 ≤ R.slots) (hA : ∀ q, A0 ad s.heap.size q → s.heap.size ≤ q) (hn : 702 ≤ nW ad) (hn2 : nW ad ≤ 860) (hc : cells ≤ 1200 ∧ slots ≤ 540000) {T h : Nat} {hr : Nat → Nat → Int32} {S RR : Nat → Int32} {n8 : Nat} (g : PV M T RR h hr true S M) (k8 : KC ad M n8 S)
    (fin : ∀ ad M cells slots L, Ev p s m args meth c D tc ad RL cL_law 13 → (∀ q, A0 ad s.heap.size q → s.heap.size ≤ q) → cells ≤ 1300 ∧ slots ≤ 550000 → Wa p l e R s m args below meth c cells slots Q D tc ad 13 M 735 L [.int 1]) :
    Wa p l e R s m args below meth c cells slots Q D tc ad 13 M 700 [(8, .ref (ad n8)), (0, .ref b), (1, .ref (ad 0))] [] := by
  refine ra_aload_n E dL_law_700 rfl 2 rfl ?_
  refine ra_callIV (rest := []) E (c_X12_restoreSnapshot M (fun r M' => r = S 0 ∧ PV M T S 0 hr true S M') (t_restoreSnapshot g (fun M' g' => ⟨rfl, g'⟩))) (lq_X12 _) cv_X12_restoreSnapshot ml_L_259 (by decide) (lm (by decide)) (fun R => ⟨_, cel_0 tc ad R⟩) rfl rfl rfl (Nat.le_of_ble_eq_true rfl) ⟨Nat.le_trans (Nat.le_of_ble_eq_true rfl) hR.1, Nat.le_trans (Nat.le_of_ble_eq_true rfl) hR.2⟩ ⟨by omega, by omega⟩ dL_law_701 (fun r M1 hk => ?_)
  obtain ⟨rfl, g1⟩ := hk
  have k1 := k8.pv g1
  have h5 : 5 ≤ aLen S := by unfold aLen; omega
  refine ra_aload E dL_law_704 0 rfl ?_
  refine ra_iconst E dL_law_706 ki_0 ?_
  refine ra_ialdW E k1.1.2.1 (cel_keptA tc k1.1) (vp_in_nI (n := 0) (by omega) (aLen_lt g1.w)) dL_law_707 ?_
  refine ra_icmp_ne (tgt := 734) E dL_law_708 rfl (fun e => absurd ?_ e) (fun _ => ?_)
  · have := k1.2 0 (by omega)
    exact this.symm
  · refine ra_aload_n E dL_law_711 rfl 2 rfl ?_
    refine ra_callAll E hn (by omega) rfl (c_L_all hn (by omega) g1.self rfl (fun M' a => a)) ml_L_241 rfl (Nat.le_of_ble_eq_true rfl) ⟨Nat.le_trans (Nat.le_of_ble_eq_true rfl) hR.1, Nat.le_trans (Nat.le_of_ble_eq_true rfl) hR.2⟩ ⟨by omega, by omega⟩ dL_law_712 (fun q M2 hq a2 E2 => ?_)
    obtain ⟨f1, f2, f3, f4, f5⟩ := gr_f (q := q) (len := aLen S) hn (by omega)
    have kN := KC.new (q := q) hn (by omega) a2
    have kB := KC.all (q := q) (len := aLen S) hn (by omega) k1 a2
    have hA2 : ∀ x, A0 (adG ad q (aLen S)) s.heap.size x → s.heap.size ≤ x := fun x hx => hA x ((A0_G (by omega) hq x).mp hx)
    have g2 := a2.1
    have eB := KC.e (q := q) (len := aLen S) hn (by omega) k1
    have hL1 : ([(8, .ref (ad n8)), (0, .ref b), (1, .ref (ad 0))] : List (Nat × Value)) = [(8, .ref (adG ad q (aLen S) n8)), (0, .ref b), (1, .ref (adG ad q (aLen S) 0))] := by rw [f2, eB]
    have hs1 : ([Value.ref q] : List Value) = [.ref (adG ad q (aLen S) (nW ad))] := by rw [f3]
    rw [hL1, hs1]
    generalize adG ad q (aLen S) = ad2 at E2 f1 f2 f3 f4 f5 kN kB hA2 eB ⊢
    clear hL1 hs1 f2 f3 f4 f5 eB
    refine ra_aload E2 dL_law_715 0 rfl ?_
    refine ra_callIS (rest := []) E2 (c_L_alike _ _ kN.1 n8 _ kB.1 M2 (fun r M1 => r = 1 ∧ M1 = M2) (alike_1 kN kB (aLen_lt g1.w) ⟨rfl, rfl⟩)) (Nat.le_refl _) ct_L_alike ml_L_252 (by decide) rfl rfl (Nat.le_of_ble_eq_true rfl) ⟨Nat.le_trans (Nat.le_of_ble_eq_true rfl) hR.1, Nat.le_trans (Nat.le_of_ble_eq_true rfl) hR.2⟩ ⟨by omega, by omega⟩ dL_law_717 (fun r M3 hk => ?_)
    obtain ⟨-, rfl, rfl⟩ := hk
    refine ra_if_eq (tgt := 734) E2 dL_law_720 rfl (fun e => absurd e (by decide)) (fun _ => ?_)
    refine ra_aload_n E2 dL_law_723 rfl 2 rfl ?_
    refine ra_callIV (rest := []) E2 (c_X12_undoableCount M3 (fun r M' => r = nI 0 ∧ M' = M3) (t_undoableCount g2 ⟨rfl, rfl⟩)) (lq_X12 _) cv_X12_undoableCount ml_L_234 (by decide) (lm (by decide)) (fun R => ⟨_, cel_0 tc ad2 R⟩) rfl rfl rfl (Nat.le_of_ble_eq_true rfl) ⟨Nat.le_trans (Nat.le_of_ble_eq_true rfl) hR.1, Nat.le_trans (Nat.le_of_ble_eq_true rfl) hR.2⟩ ⟨by omega, by omega⟩ dL_law_724 (fun r M4 hk => ?_)
    obtain ⟨rfl, rfl⟩ := hk
    refine ra_if_ne (tgt := 734) E2 dL_law_727 rfl (fun e => absurd rfl e) (fun _ => ?_)
    refine ra_iconst E2 dL_law_730 ki_1 ?_
    refine ra_goto (tgt := 735) E2 dL_law_731 rfl ?_
    exact fin ad2 M4 _ _ _ E2 hA2 ⟨by omega, by omega⟩
theorem rd_670 (E : Ev p s m args meth c D tc ad RL cL_law 13) (hR : 15 ≤ R.frames ∧ 578 ≤ R.locals) (hRc : 2000 ≤ R.cells ∧ 600000 ≤ R.slots) (hX : va_X b LL xs s s.heap) (hbl : b < s.heap.size) (hLL : LL < 2 ^ 31) (hA : ∀ q, A0 ad s.heap.size q → s.heap.size ≤ q) (hn : 702 ≤ nW ad) (hn2 : nW ad ≤ 860) (hc : cells ≤ 1200 ∧ slots ≤ 540000) (hT0 : T0 + 1000 < 2 ^ 31) {S : Nat → Int32} {n8 : Nat}
    (fin : ∀ ad M cells slots L, Ev p s m args meth c D tc ad RL cL_law 13 → (∀ q, A0 ad s.heap.size q → s.heap.size ≤ q) → cells ≤ 1300 ∧ slots ≤ 550000 → Wa p l e R s m args below meth c cells slots Q D tc ad 13 M 735 L [.int 1]) :
    ∀ n j M T h hr RR m0, j + n = 5 → PV M T RR h hr true S M → Gd P m0 RR → m0 ≤ 2000 + 60 * j → T ≤ T0 + 100 + j → 1 ≤ nb RR → KC ad M n8 S → Wa p l e R s m args below meth c cells slots Q D tc ad 13 M 670 [(9, .int (nI j)), (8, .ref (ad n8)), (0, .ref b), (1, .ref (ad 0))] [] := by
  intro n
  induction n with
  | zero =>
    intro j M T h hr RR m0 hj g gd hm hT hb k8
    refine ra_iload E dL_law_670 0 rfl ?_
    refine ra_iconst E dL_law_672 ki_5 ?_
    refine ra_icmp_ge (tgt := 700) E dL_law_673 rfl (fun _ => ?_) (fun e => absurd (nI_le (a := 5) (by omega) (by omega)) e)
    exact ra_sub (L' := [(8, _), (0, _), (1, _)]) [1, 2, 3] rfl (rd_end E hR hRc hA hn hn2 hc g k8 fin)
  | succ n ih =>
    intro j M T h hr RR m0 hj g gd hm hT hb k8
    have g8 := g.h8
    refine ra_iload E dL_law_670 0 rfl ?_
    refine ra_iconst E dL_law_672 ki_5 ?_
    refine ra_icmp_ge (tgt := 700) E dL_law_673 rfl (fun e => absurd e (nI_ge (b := 5) (by omega) (by decide))) (fun _ => ?_)
    refine ra_aload_n E dL_law_676 rfl 3 rfl ?_
    refine ra_aload_n E dL_law_677 rfl 2 rfl ?_
    refine ra_bipush E dL_law_678 kb_36 ?_
    refine ra_iload E dL_law_680 0 rfl ?_
    refine ra_iadd E dL_law_682 ?_
    refine ra_cell (rest := [_]) E hX hbl (fun z => absurd (hA _ z) (by omega)) hLL (k := 36 + j) (by omega) (nI_add 36 j) ml_L_190 rfl (Nat.le_of_ble_eq_true rfl) ⟨Nat.le_trans (Nat.le_of_ble_eq_true rfl) hR.1, Nat.le_trans (Nat.le_of_ble_eq_true rfl) hR.2⟩ ⟨by omega, by omega⟩ dL_law_683 (fun u => ?_)
    refine ra_callIS (rest := []) E (c_L_act u M _ (r_act g gd (by omega) (by omega) hb)) (Nat.le_refl _) ct_L_act ml_L_245 (by decide) rfl rfl (Nat.le_of_ble_eq_true rfl) ⟨Nat.le_trans (Nat.le_of_ble_eq_true rfl) hR.1, Nat.le_trans (Nat.le_of_ble_eq_true rfl) hR.2⟩ ⟨by omega, by omega⟩ dL_law_686 (fun r M2 hk => ?_)
    obtain ⟨-, rfl, ap⟩ := hk
    refine ra_if_ne (tgt := 694) E dL_law_689 rfl (fun _ => ?_) (fun e => absurd e (by decide))
    refine ra_iinc1 (L' := [(9, _), (8, _), (0, _), (1, _)]) E dL_law_694 0 rfl (by decide) rfl ?_
    rw [nI_1]
    refine ra_goto (tgt := 670) E dL_law_697 rfl ?_
    rcases ap with ⟨R', e1, g2⟩ | ⟨e1, g2⟩
    · obtain ⟨m', q1, q2, q3⟩ := ao_good g.w gd hb (by omega) e1
      exact ih (j + 1) M2 (T + 1) _ _ R' m' (by omega) g2.self q2 (by omega) (by omega) (by omega) (k8.pv g2)
    · exact ih (j + 1) M2 T _ _ RR m0 (by omega) g2.self gd (by omega) (by omega) hb (k8.pv g2)
theorem rd_657 (E : Ev p s m args meth c D tc ad RL cL_law 13) (hR : 15 ≤ R.frames ∧ 578 ≤ R.locals) (hRc : 2000 ≤ R.cells ∧ 600000 ≤ R.slots) (hX : va_X b LL xs s s.heap) (hbl : b < s.heap.size) (hLL : LL < 2 ^ 31) (hT0 : T0 + 1000 < 2 ^ 31) (hI : RI s T0 P 32 ad M) (hc : cells ≤ 4 * 32 + 1000 ∧ slots ≤ 800 * 32 + 500000)
    (fin : ∀ ad M cells slots L, Ev p s m args meth c D tc ad RL cL_law 13 → (∀ q, A0 ad s.heap.size q → s.heap.size ≤ q) → cells ≤ 1300 ∧ slots ≤ 550000 → Wa p l e R s m args below meth c cells slots Q D tc ad 13 M 735 L [.int 1]) :
    Wa p l e R s m args below meth c cells slots Q D tc ad 13 M 657 [(0, .ref b), (1, .ref (ad 0))] [] := by
  obtain ⟨hA, hn, hn2, T, h, hr, sb, S, RR, m0, g, gd, hm, hT, hb⟩ := hI
  refine ra_aload_n E dL_law_657 rfl 1 rfl ?_
  refine ra_callVV (rest := []) E (c_X12_saveSnapshot M (fun M' => PV M T RR h hr true RR M') (t_saveSnapshot g (fun M' g' => g'))) (lq_X12 _) cv_X12_saveSnapshot ml_L_256 (by decide) (lm (by decide)) (fun R => ⟨_, cel_0 tc ad R⟩) rfl rfl rfl (Nat.le_of_ble_eq_true rfl) ⟨Nat.le_trans (Nat.le_of_ble_eq_true rfl) hR.1, Nat.le_trans (Nat.le_of_ble_eq_true rfl) hR.2⟩ ⟨by omega, by omega⟩ dL_law_658 (fun M1 g1 => ?_)
  refine ra_aload_n E dL_law_661 rfl 1 rfl ?_
  refine ra_callAll E hn (by omega) rfl (c_L_all hn (by omega) g1.self rfl (fun M' a => a)) ml_L_241 rfl (Nat.le_of_ble_eq_true rfl) ⟨Nat.le_trans (Nat.le_of_ble_eq_true rfl) hR.1, Nat.le_trans (Nat.le_of_ble_eq_true rfl) hR.2⟩ ⟨by omega, by omega⟩ dL_law_662 (fun q M2 hq a2 E2 => ?_)
  obtain ⟨f1, f2, f3, f4, f5⟩ := gr_f (q := q) (len := aLen RR) hn (by omega)
  have kN := KC.new (q := q) hn (by omega) a2
  have hA2 : ∀ x, A0 (adG ad q (aLen RR)) s.heap.size x → s.heap.size ≤ x := fun x hx => hA x ((A0_G (by omega) hq x).mp hx)
  have g2 := a2.1
  have hL1 : ([(0, .ref b), (1, .ref (ad 0))] : List (Nat × Value)) = [(0, .ref b), (1, .ref (adG ad q (aLen RR) 0))] := by rw [f2]
  have hs1 : ([Value.ref q] : List Value) = [.ref (adG ad q (aLen RR) (nW ad))] := by rw [f3]
  rw [hL1, hs1]
  generalize adG ad q (aLen RR) = ad2 at E2 f1 f2 f3 f4 f5 kN hA2 ⊢
  clear hL1 hs1 f2 f3 f4 f5
  refine ra_astore (L' := [(8, _), (0, _), (1, _)]) E2 dL_law_665 (by decide) rfl ?_
  refine ra_iconst E2 dL_law_667 ki_0 ?_
  refine ra_istore (L' := [(9, _), (8, _), (0, _), (1, _)]) E2 dL_law_668 (by decide) rfl ?_
  exact rd_670 E2 hR hRc hX hbl hLL hA2 (by omega) (by omega) ⟨by omega, by omega⟩ hT0 fin 5 0 M2 T h hr RR m0 (by omega) g2 gd (by omega) (by omega) hb kN
theorem rd_486 (hR : 15 ≤ R.frames ∧ 578 ≤ R.locals) (hRc : 2000 ≤ R.cells ∧ 600000 ≤ R.slots) (hX : va_X b LL xs s s.heap) (hbl : b < s.heap.size) (hLL : LL < 2 ^ 31) (hT0 : T0 + 1000 < 2 ^ 31)
    (fin : ∀ ad M cells slots L, Ev p s m args meth c D tc ad RL cL_law 13 → (∀ q, A0 ad s.heap.size q → s.heap.size ≤ q) → cells ≤ 1300 ∧ slots ≤ 550000 → Wa p l e R s m args below meth c cells slots Q D tc ad 13 M 735 L [.int 1]) :
    ∀ n k ad M cells slots, k + n = 32 → Ev p s m args meth c D tc ad RL cL_law 13 → RI s T0 P k ad M → cells ≤ 4 * k + 1000 ∧ slots ≤ 800 * k + 500000 → Wa p l e R s m args below meth c cells slots Q D tc ad 13 M 486 [(0, .ref b), (1, .ref (ad 0)), (8, .int (nI k))] [] := by
  intro n
  induction n with
  | zero =>
    intro k ad M cells slots hk E hI hc
    have : k = 32 := by omega
    subst this
    refine ra_iload E dL_law_486 2 rfl ?_
    refine ra_bipush E dL_law_488 kb_32 ?_
    refine ra_icmp_ge (tgt := 657) E dL_law_490 rfl (fun _ => ?_) (fun e => absurd (nI_le (a := 32) (Nat.le_refl _) (by decide)) e)
    exact ra_sub (L' := [(0, _), (1, _)]) [0, 1] rfl (rd_657 E hR hRc hX hbl hLL hT0 hI hc fin)
  | succ n ih =>
    intro k ad M cells slots hk E hI hc
    have hA := hI.1
    refine ra_iload E dL_law_486 2 rfl ?_
    refine ra_bipush E dL_law_488 kb_32 ?_
    refine ra_icmp_ge (tgt := 657) E dL_law_490 rfl (fun e => absurd e (nI_ge (b := 32) (by omega) (by decide))) (fun _ => ?_)
    refine ra_aload_n E dL_law_493 rfl 0 rfl ?_
    refine ra_bipush E dL_law_494 kb_8 ?_
    refine ra_iload E dL_law_496 2 rfl ?_
    refine ra_bipush E dL_law_498 kb_28 ?_
    refine ra_irem E dL_law_500 (by decide) ?_
    refine ra_iadd E dL_law_501 ?_
    refine ra_cell (rest := []) E hX hbl (fun z => absurd (hA _ z) (by omega)) hLL (k := 8 + k % 28) (by omega) (by rw [show (28 : Int32) = nI 28 from rfl, pk_rem (by omega) (by decide) (by decide)]; exact nI_add 8 _) ml_L_190 rfl (Nat.le_of_ble_eq_true rfl) ⟨Nat.le_trans (Nat.le_of_ble_eq_true rfl) hR.1, Nat.le_trans (Nat.le_of_ble_eq_true rfl) hR.2⟩ ⟨by omega, by omega⟩ dL_law_502 (fun u => ?_)
    refine ra_iload E dL_law_505 2 rfl ?_
    refine ra_bipush E dL_law_507 kb_28 ?_
    refine ra_idiv E dL_law_509 (by decide) ?_
    refine ra_iconst E dL_law_510 ki_2 ?_
    refine ra_imul E dL_law_511 ?_
    refine ra_ishr E dL_law_512 ?_
    refine ra_istore (L' := [(9, _), (0, _), (1, _), (8, _)]) E dL_law_513 (by decide) rfl ?_
    generalize u >>> ((nI k / 28 * 2) &&& 31) = u'
    have go : ∀ M', RI s T0 P k ad M' → Wa p l e R s m args below meth c cells slots Q D tc ad 13 M' 532 [(9, .int u'), (0, .ref b), (1, .ref (ad 0)), (8, .int (nI k))] [] := fun M' hI' => rd_532 E hR hRc (by omega) hT0 hI' hc (fun ad M cells slots E1 hI1 hc1 => ih (k + 1) ad M cells slots (by omega) E1 hI1 hc1)
    refine ra_iload E dL_law_515 3 rfl ?_
    refine ra_bipush E dL_law_517 kb_6 ?_
    refine ra_irem E dL_law_519 (by decide) ?_
    refine ra_if_ne (tgt := 532) E dL_law_520 rfl (fun _ => go M hI) (fun _ => ?_)
    obtain ⟨-, hn, hn2, T, h, hr, sb, S, RR, m0, g, gd, hm, hT, hb⟩ := hI
    refine ra_aload_n E dL_law_523 rfl 2 rfl ?_
    refine ra_callIS (rest := []) E (c_L_isCanal M (fun r M' => r = 1 ∧ PV M T RR h hr sb S M') (i_isCanal g gd (fun M' g' => ⟨rfl, g'⟩))) (Nat.le_refl _) ct_L_isCanal ml_L_237 (by decide) rfl rfl (Nat.le_of_ble_eq_true rfl) ⟨Nat.le_trans (Nat.le_of_ble_eq_true rfl) hR.1, Nat.le_trans (Nat.le_of_ble_eq_true rfl) hR.2⟩ ⟨by omega, by omega⟩ dL_law_524 (fun r M2 hk2 => ?_)
    obtain ⟨-, rfl, g2⟩ := hk2
    exact ra_if_ne (tgt := 532) E dL_law_527 rfl (fun _ => go M2 ⟨hA, hn, hn2, T, h, hr, sb, S, RR, m0, g2.self, gd, hm, hT, hb⟩) (fun e => absurd e (by decide))
end ROUND4
