/-! p65: the law's rounds: what is kept, and what an act leaves -/
def KC (ad : Nat → Nat) (M : TM) (a : Nat) (R1 : Nat → Int32) : Prop := KeptA ad a (aLen R1) ∧ ∀ i, i < aLen R1 → M a i = aIt R1 i
def APost (L : TM) (T : Nat) (u : Int32) (RR : Nat → Int32) (h : Nat) (hr : Nat → Nat → Int32) (sb : Bool) (S : Nat → Int32) (M' : TM) : Prop := (∃ R', aOpt u RR = some R' ∧ PV L (T + 1) R' (min (h + 1) 8) (pushR h hr RR) sb S M') ∨ (aOpt u RR = none ∧ PV L T RR h hr sb S M')
/-- between rounds: the world's size, the object, and what bounds its numbers -/
def RI (s : State) (T0 P k : Nat) (ad : Nat → Nat) (M : TM) : Prop := (∀ q, A0 ad s.heap.size q → s.heap.size ≤ q) ∧ 702 ≤ nW ad ∧ nW ad ≤ 702 + 4 * k ∧ ∃ (T h : Nat) (hr : Nat → Nat → Int32) (sb : Bool) (S RR : Nat → Int32) (m : Nat), PV M T RR h hr sb S M ∧ Gd P m RR ∧ m ≤ 60 * k ∧ T ≤ T0 + 2 * k ∧ 1 ≤ nb RR
section ROUND1
variable {ad : Nat → Nat} {M M' L : TM} {T h q len a P m : Nat} {u : Int32} {RR R1 S : Nat → Int32} {hr : Nat → Nat → Int32} {sb : Bool} {s : State}
theorem gr_f (hn : 702 ≤ nW ad) (hlt : nW ad < 900) : nW (adG ad q len) = nW ad + 1 ∧ adG ad q len 0 = ad 0 ∧ adG ad q len (nW ad) = q ∧ KeptA (adG ad q len) (nW ad) len ∧ ∀ a n, KeptA ad a n → KeptA (adG ad q len) a n ∧ adG ad q len a = ad a := by
  refine ⟨nW_G (by omega), adG_o (by omega) (by omega) (by omega), adG_n, ⟨hn, by rw [nW_G (by omega)]; exact Nat.lt_succ_self _, adG_len⟩, fun a n hk => ?_⟩
  obtain ⟨h1, h2, h3⟩ := hk
  exact ⟨⟨h1, by rw [nW_G (by omega)]; omega, (adG_o (by omega) (by omega) (by omega)).trans h3⟩, adG_o (by omega) (by omega) (by omega)⟩
theorem KC.pv (k : KC ad M a R1) (g : PV M T RR h hr sb S M') : KC ad M' a R1 := ⟨k.1, fun i hi => by rw [g.2 a (by have := k.1.1; omega)]; exact k.2 i hi⟩
theorem KC.all (hn : 702 ≤ nW ad) (hlt : nW ad < 900) (k : KC ad M a R1) {x : Nat} (g : AI M T RR h hr sb S (nW ad) x M') : KC (adG ad q len) M' a R1 := ⟨((gr_f hn hlt).2.2.2.2 _ _ k.1).1, fun i hi => by rw [g.2.1 a (by have := k.1.1; omega) (by have := k.1.2.1; omega)]; exact k.2 i hi⟩
theorem KC.new (hn : 702 ≤ nW ad) (hlt : nW ad < 900) (g : AI M T RR h hr sb S (nW ad) (aLen RR) M') : KC (adG ad q (aLen RR)) M' (nW ad) RR := ⟨(gr_f hn hlt).2.2.2.1, g.2.2⟩
theorem KC.e (hn : 702 ≤ nW ad) (hlt : nW ad < 900) (k : KC ad M a R1) : adG ad q len a = ad a := ((gr_f (q := q) (len := len) hn hlt).2.2.2.2 _ _ k.1).2
theorem r_act (g : PV M T RR h hr sb S M) (gd : Gd P m RR) (hm : m + 60 ≤ 10000) (hT : T + 1 < 2 ^ 31) (h1 : 1 ≤ nb RR) : f_L_act u M (fun r M' => r = 1 ∧ APost M T u RR h hr sb S M') :=
  b_act g gd hm hT h1 (fun R' e M' g' => ⟨rfl, Or.inl ⟨R', e, g'⟩⟩) (fun e M' g' => ⟨rfl, Or.inr ⟨e, g'⟩⟩)
theorem alike_1 {a0 a1 : Nat} {K : Int32 → TM → Prop} (k0 : KC ad M a0 RR) (k1 : KC ad M a1 RR) (hl : aLen RR < 2 ^ 31) (hK : K 1 M) : f_L_alike a0 (aLen RR) a1 (aLen RR) M K := r_alike rfl hl (fun i hi => (k0.2 i hi).trans (k1.2 i hi).symm) hK
theorem aLen_lt (w : WF T RR) : aLen RR < 2 ^ 31 := by
  have n16 := w.np16
  have n5 := w.nb5
  have n30 := w.no30
  unfold aLen
  omega
theorem push_at (hh : h < 8) : pushR h hr RR h = RR := by
  unfold pushR
  rw [if_neg (by omega)]
end ROUND1
section ROUND2
variable {p : Program} {l : Launch} {e : Env} {R : Room} {s : State} {m : MethodId} {args : Array Value} {below : List Frame} {meth : Method} {c : Code} {cells slots : Nat} {Q : State → Prop} {D : va_G} {tc : Nat → ClassId} {ad : Nat → Nat} {nL b LL k : Nat} {xs : Nat → Int32} {M : TM} {T0 P : Nat}
theorem rd_651 (E : Ev p s m args meth c D tc ad RL cL_law 13) (hI : RI s T0 P (k + 1) ad M) (hc : cells ≤ 4 * (k + 1) + 1000 ∧ slots ≤ 800 * (k + 1) + 500000)
    (next : ∀ ad M cells slots, Ev p s m args meth c D tc ad RL cL_law 13 → RI s T0 P (k + 1) ad M → cells ≤ 4 * (k + 1) + 1000 ∧ slots ≤ 800 * (k + 1) + 500000 → Wa p l e R s m args below meth c cells slots Q D tc ad 13 M 486 [(0, .ref b), (1, .ref (ad 0)), (8, .int (nI (k + 1)))] []) :
    Wa p l e R s m args below meth c cells slots Q D tc ad 13 M 651 [(0, .ref b), (1, .ref (ad 0)), (8, .int (nI k))] [] := by
  refine ra_iinc1 (L' := [(8, _), (0, _), (1, _)]) E dL_law_651 2 rfl (by decide) rfl ?_
  rw [nI_1]
  refine ra_goto (tgt := 486) E dL_law_654 rfl ?_
  exact ra_sub (L' := [(0, _), (1, _), (8, _)]) [1, 2, 0] rfl (next ad M cells slots E hI hc)
theorem rd_623 (E : Ev p s m args meth c D tc ad RL cL_law 13) (hR : 15 ≤ R.frames ∧ 578 ≤ R.locals) (hcs : cells ≤ R.cells ∧ slots ≤ R.slots) {T h1 h2 m2 : Nat} {hr : Nat → Nat → Int32} {sb : Bool} {S R1 R2 : Nat → Int32} {a1 a2 : Nat} (hA : ∀ q, A0 ad s.heap.size q → s.heap.size ≤ q) (hn : 702 ≤ nW ad) (hn2 : nW ad ≤ 702 + 4 * (k + 1)) (g : PV M T R2 h2 hr sb S M) (gd : Gd P m2 R2) (hm : m2 ≤ 60 * (k + 1)) (hT : T ≤ T0 + 2 * (k + 1)) (hb : 1 ≤ nb R2) (k1 : KC ad M a1 R1) (k2 : KC ad M a2 R2) (hh : h1 ≤ 8) (h12 : h2 = h1 → h1 < 8 → R2 = R1) (hc : cells ≤ 4 * (k + 1) + 1000 ∧ slots ≤ 800 * (k + 1) + 500000)
    (next : ∀ ad M cells slots, Ev p s m args meth c D tc ad RL cL_law 13 → RI s T0 P (k + 1) ad M → cells ≤ 4 * (k + 1) + 1000 ∧ slots ≤ 800 * (k + 1) + 500000 → Wa p l e R s m args below meth c cells slots Q D tc ad 13 M 486 [(0, .ref b), (1, .ref (ad 0)), (8, .int (nI (k + 1)))] []) :
    Wa p l e R s m args below meth c cells slots Q D tc ad 13 M 623 [(0, .ref b), (1, .ref (ad 0)), (8, .int (nI k)), (10, .ref (ad a1)), (11, .int (nI h1)), (12, .ref (ad a2))] [] := by
  have g8 := g.h8
  have go : ∀ M', PV M' T R2 h2 hr sb S M' → Wa p l e R s m args below meth c cells slots Q D tc ad 13 M' 651 [(0, .ref b), (1, .ref (ad 0)), (8, .int (nI k)), (10, .ref (ad a1)), (11, .int (nI h1)), (12, .ref (ad a2))] [] := fun M' g' =>
    ra_sub (L' := [(0, _), (1, _), (8, _)]) [0, 1, 2] rfl (rd_651 E ⟨hA, hn, hn2, T, h2, hr, sb, S, R2, m2, g', gd, hm, hT, hb⟩ hc next)
  refine ra_aload_n E dL_law_623 rfl 1 rfl ?_
  refine ra_callIV (rest := []) E (c_X12_undoableCount M (fun r M' => r = nI h2 ∧ M' = M) (t_undoableCount g ⟨rfl, rfl⟩)) (lq_X12 _) cv_X12_undoableCount ml_L_234 (by decide) (lm (by decide)) (fun R => ⟨_, cel_0 tc ad R⟩) rfl rfl rfl (Nat.le_of_ble_eq_true rfl) ⟨Nat.le_trans (Nat.le_of_ble_eq_true rfl) hR.1, Nat.le_trans (Nat.le_of_ble_eq_true rfl) hR.2⟩ hcs dL_law_624 (fun r M' hk => ?_)
  obtain ⟨rfl, rfl⟩ := hk
  refine ra_iload E dL_law_627 4 rfl ?_
  refine ra_icmp_ne (tgt := 651) E dL_law_629 rfl (fun _ => go M' g) (fun e1 => ?_)
  have e12 : h2 = h1 := nI_inj (by omega) (by omega) e1
  refine ra_iload E dL_law_632 4 rfl ?_
  refine ra_bipush E dL_law_634 kb_8 ?_
  refine ra_icmp_ge (tgt := 651) E dL_law_636 rfl (fun _ => go M' g) (fun e8 => ?_)
  have h8 : h1 < 8 := Nat.lt_of_not_le (fun c => e8 (nI_le (a := 8) c (by omega)))
  have eR := h12 e12 h8
  subst eR
  refine ra_aload E dL_law_639 3 rfl ?_
  refine ra_aload E dL_law_641 5 rfl ?_
  refine ra_callIS (rest := []) E (c_L_alike a1 _ k1.1 a2 _ k2.1 M' (fun r M1 => r = 1 ∧ M1 = M') (alike_1 k1 k2 (aLen_lt g.w) ⟨rfl, rfl⟩)) (Nat.le_refl _) ct_L_alike ml_L_252 (by decide) rfl rfl (Nat.le_of_ble_eq_true rfl) ⟨Nat.le_trans (Nat.le_of_ble_eq_true rfl) hR.1, Nat.le_trans (Nat.le_of_ble_eq_true rfl) hR.2⟩ hcs dL_law_643 (fun r M1 hk => ?_)
  obtain ⟨-, rfl, rfl⟩ := hk
  exact ra_if_ne (tgt := 651) E dL_law_646 rfl (fun _ => go M1 g) (fun e => absurd e (by decide))
end ROUND2
