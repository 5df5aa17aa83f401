/-! p65: a good canal passes the law's look, third part: orders and sums -/
section LOOK3
variable {M M1 M' L L' : TM} {T U P m0 : Nat} {K : Int32 → TM → Prop} {R R' S : Nat → Int32} {a b c d e f j k h ci di t o : Nat} {hr : Nat → Nat → Int32} {sb : Bool} {x1 x2 x3 x4 x5 x6 x7 x8 x9 x10 : Int32}
theorem absI_0 : absI 0 = 0 := rfl
theorem gap_0 (w : WF T R) (gd : Gd P m0 R) : absI (R 7 - (sOf R 4 + sOf R 5 + sAt R 40)) + absI (R 5 - sAt R 56) = 0 := by
  obtain ⟨g1, g2, g3, g4, g5, g6⟩ := gd.1
  obtain ⟨l1, l2, l3⟩ := gd.2.1.1.2
  have n16 := w.np16
  have wz := w.1.2.2.2.2.2.2.2
  have z0 : ∀ t, np R ≤ t → t < 16 → us R t = 0 ∧ ea R t = 0 := fun t h1 h2 => by
    unfold us ea
    rw [(wz t h1 h2).1, (wz t h1 h2).2]
    exact ⟨rfl, rfl⟩
  have s4 : sOf R 4 = nI (sN (cl R) (nb R)) := by
    unfold sOf
    have := fo_sN (f := fun b => bg R b 4) (g := cl R) (nb R) (fun b hb => (g2 b hb).1) 0
    rw [Nat.zero_add] at this
    exact this
  have s5 : sOf R 5 = nI (sN (dt R) (nb R)) := by
    unfold sOf
    have := fo_sN (f := fun b => bg R b 5) (g := dt R) (nb R) (fun b hb => (g2 b hb).2) 0
    rw [Nat.zero_add] at this
    exact this
  have s40 : sAt R 40 = nI (sN (us R) 16) := by
    unfold sAt
    have := fo_sN (f := fun j => R (40 + j)) (g := us R) (np R) (fun b hb => g3 b (by omega)) 0
    rw [Nat.zero_add] at this
    rw [sN_tail 16 n16 (fun k h1 h2 => (z0 k h1 h2).1)]
    exact this
  have s56 : sAt R 56 = nI (sN (ea R) 16) := by
    unfold sAt
    have := fo_sN (f := fun j => R (56 + j)) (g := ea R) (np R) (fun b hb => l2 b (by omega)) 0
    rw [Nat.zero_add] at this
    rw [sN_tail 16 n16 (fun k h1 h2 => (z0 k h1 h2).2)]
    exact this
  have e1 : R 7 - (sOf R 4 + sOf R 5 + sAt R 40) = 0 := by
    rw [s4, s5, s40, g5, nI_add, nI_add, ← sN_add, g4]
    exact Int32.sub_self _
  have e2 : R 5 - sAt R 56 = 0 := by
    rw [s56, l1, l3]
    exact Int32.sub_self _
  rw [e1, e2, absI_0]
  rfl
theorem i_1031 {z0 z1 : UInt32} (g : PV L T R h hr sb S M) (gd : Gd P m0 R) (hz : Op.cmpValue (FP.fcmp z1 z0) CmpOp.l = 0) (hK : ∀ M', PV L T R h hr sb S M' → K 1 M') : f_L_isCanal_L1031 K z0 z1 M := by
  unfold f_L_isCanal_L1031
  have w := g.w
  have n3 := w.np3
  refine cT hz ?_
  refine t_coinsAfter (m := 0) g rfl (by decide) (fun M1 g1 => ?_)
  refine t_coins g1 ?_
  refine cT rfl ?_
  refine t_writeCanal g1 (fun M2 g2 => ?_)
  refine t_placeCount g2 ?_
  refine cT (by rw [show R 1 = nI (np R) from w.1.1.1.1, show (2 : Int32) = nI 2 from rfl, nI_mul, show (1 : Int32) = nI 1 from rfl, nI_sub (by omega)]) ?_
  refine t_gap g2 ?_
  exact cT (gap_0 w gd) (hK M2 g2)
theorem i_867 {k6 : Int32 → Int32 → Int32 → Int32 → Int32 → Int32 → Int32 → Int32 → Int32 → Int32 → Int32 → TM → Prop} (g : PV L T R h hr sb S M) (ho : o < no R) (hd : R 0 ≤ og R o 3) (hk : ∀ M', PV L T R h hr sb S M' → k6 x1 x2 x3 x4 x5 x6 x7 x8 x9 x10 (nI (o + 1)) M') : f_L_isCanal_L867 K k6 x1 x2 x3 x4 x5 x6 x7 x8 x9 x10 (nI o) M := by
  unfold f_L_isCanal_L867
  refine t_deadline g rfl ho ?_
  refine t_minute g ?_
  exact cT' hd (i_882 g ho hk)
theorem i_853 {ow : Bool} {k6 : Int32 → Int32 → Int32 → Int32 → Int32 → Int32 → Int32 → Int32 → Int32 → Int32 → Int32 → TM → Prop} (g : PV L T R h hr sb S M) (ho : o < no R) (hd : og R o 4 = 0 ∨ ow = true → R 0 ≤ og R o 3) (hk : ∀ M', PV L T R h hr sb S M' → k6 x1 x2 x3 x4 x5 x6 x7 x8 x9 x10 (nI (o + 1)) M') : f_L_isCanal_L853 K k6 x1 x2 x3 x4 x5 x6 x7 x8 x9 x10 (nI o) (bi ow) M := by
  unfold f_L_isCanal_L853
  refine t_isOpen g rfl ho ?_
  refine pT (fun e => i_867 g ho (hd (Or.inl e)) hk) (fun _ => ?_)
  exact bF (fun e => i_867 g ho (hd (Or.inr e)) hk) (fun _ => i_882 g ho hk)
theorem i_814 {ow wl : Bool} {k6 : Int32 → Int32 → Int32 → Int32 → Int32 → Int32 → Int32 → Int32 → Int32 → Int32 → Int32 → TM → Prop} (g : PV L T R h hr sb S M) (ho : o < no R) (hd : og R o 4 = 0 ∨ ow = true → R 0 ≤ og R o 3) (h0 : og R o 4 = 0 → ow = false ∧ wl = false) (hk : ∀ M', PV L T R h hr sb S M' → k6 x1 x2 x3 x4 x5 x6 x7 x8 x9 (urg R) (nI (o + 1)) M') : f_L_isCanal_L814 K k6 x1 x2 x3 x4 x5 x6 x7 x8 x9 (urg R) (nI o) (bi ow) (bi wl) M := by
  unfold f_L_isCanal_L814
  have hn : no R < 2 ^ 31 := Int32.toNatClampNeg_lt _
  refine t_isOpen g rfl ho ?_
  refine pF (fun e => ?_) (fun _ => i_853 g ho hd hk)
  obtain ⟨u, u1, u2, u3⟩ := urg_min R o ho e
  refine bT (fun c => absurd ((h0 e).1.symm.trans c) (by decide)) (fun _ => ?_)
  refine bT (fun c => absurd ((h0 e).2.symm.trans c) (by decide)) (fun _ => ?_)
  refine cN' (by rw [u2]; exact nI_pos (by omega)) ?_
  refine t_deadline g rfl ho ?_
  refine t_deadline g u2 u1 ?_
  exact cN' (Int32.not_lt.2 u3) (i_853 g ho hd hk)
theorem i_786 {ow wl : Bool} {k6 : Int32 → Int32 → Int32 → Int32 → Int32 → Int32 → Int32 → Int32 → Int32 → Int32 → Int32 → TM → Prop} (g : PV L T R h hr sb S M) (ho : o < no R) (hd : og R o 4 = 0 ∨ ow = true → R 0 ≤ og R o 3) (h0 : og R o 4 = 0 → ow = false ∧ wl = false) (h3 : og R o 4 = 3 → ow = false ∧ wl = true ∧ og R o 7 = 0) (hk : ∀ M', PV L T R h hr sb S M' → k6 x1 x2 x3 x4 x5 x6 x7 x8 x9 (urg R) (nI (o + 1)) M') : f_L_isCanal_L786 K k6 x1 x2 x3 x4 x5 x6 x7 x8 x9 (urg R) (nI o) (bi ow) (bi wl) M := by
  unfold f_L_isCanal_L786
  refine t_isEaten g rfl ho ?_
  refine pF (fun e => ?_) (fun _ => i_814 g ho hd h0 hk)
  obtain ⟨a1, a2, a3⟩ := h3 e
  refine bT (fun c => absurd (a1.symm.trans c) (by decide)) (fun _ => ?_)
  refine t_pullsLeft g rfl ho ?_
  refine cT a3 ?_
  exact bF (fun _ => i_814 g ho hd h0 hk) (fun c => absurd (a2.symm.trans c) (by decide))
theorem i_760 {ow wl : Bool} {z0 z1 : Int32} {k6 : Int32 → Int32 → Int32 → Int32 → Int32 → Int32 → Int32 → Int32 → Int32 → Int32 → Int32 → TM → Prop} (g : PV L T R h hr sb S M) (ho : o < no R) (hd : og R o 4 = 0 ∨ ow = true → R 0 ≤ og R o 3) (h0 : og R o 4 = 0 → ow = false ∧ wl = false) (h3 : og R o 4 = 3 → ow = false ∧ wl = true ∧ og R o 7 = 0) (h2 : og R o 4 = 2 → ow = true ∧ og R o 7 = 0) (hk : ∀ M', PV L T R h hr sb S M' → k6 x1 x2 x3 x4 x5 x6 x7 (z1 + z0) x9 (urg R) (nI (o + 1)) M') : f_L_isCanal_L760 K k6 x1 x2 x3 x4 x5 x6 x7 x9 (urg R) (nI o) (bi ow) (bi wl) z0 z1 M := by
  unfold f_L_isCanal_L760
  refine t_isReady g rfl ho ?_
  refine pF (fun e => ?_) (fun _ => i_786 g ho hd h0 h3 hk)
  refine bF (fun _ => ?_) (fun c => absurd ((h2 e).1.symm.trans c) (by decide))
  refine t_pullsLeft g rfl ho ?_
  exact cT (h2 e).2 (i_786 g ho hd h0 h3 hk)
theorem i_728 {ow wl : Bool} {k6 : Int32 → Int32 → Int32 → Int32 → Int32 → Int32 → Int32 → Int32 → Int32 → Int32 → Int32 → TM → Prop} (g : PV L T R h hr sb S M) (ho : o < no R) (hw : ow = isHeld R o) (hd : og R o 4 = 0 ∨ ow = true → R 0 ≤ og R o 3) (h0 : og R o 4 = 0 → ow = false ∧ wl = false) (h3 : og R o 4 = 3 → ow = false ∧ wl = true ∧ og R o 7 = 0) (h2 : og R o 4 = 2 → ow = true ∧ og R o 7 = 0) (hk : ∀ M', PV L T R h hr sb S M' → k6 x1 x2 x3 x4 x5 x6 x7 (x8 + bi (decide (og R o 4 = 4))) x9 (urg R) (nI (o + 1)) M') : f_L_isCanal_L728 K k6 x1 x2 x3 x4 x5 x6 x7 x8 x9 (urg R) (nI o) (bi ow) (bi wl) M := by
  have hno : ∀ {v : Int32}, og R o 4 = v → v ≠ 4 → f_L_isCanal_L759 K k6 x1 x2 x3 x4 x5 x6 x7 x9 (urg R) (nI o) (bi ow) (bi wl) x8 M := fun {v} e hv => by
    unfold f_L_isCanal_L759
    refine i_760 g ho hd h0 h3 h2 (fun M' g' => ?_)
    have := hk M' g'
    rw [e, decide_eq_false hv] at this
    exact this
  unfold f_L_isCanal_L728
  refine bT (fun c => ?_) (fun c => ?_)
  · rw [hw] at c
    unfold isHeld at c
    rw [Bool.or_eq_true, decide_eq_true_eq, decide_eq_true_eq] at c
    rcases c with e | e
    · exact hno e (by decide)
    · exact hno e (by decide)
  · refine t_isOpen g rfl ho ?_
    refine pT (fun e => hno e (by decide)) (fun n0 => ?_)
    refine t_isEaten g rfl ho ?_
    refine pT (fun e => hno e (by decide)) (fun n3 => ?_)
    refine i_760 g ho hd h0 h3 h2 (fun M' g' => ?_)
    have e4 : og R o 4 = 4 := by
      rw [hw] at c
      unfold isHeld at c
      rw [Bool.or_eq_false_iff, decide_eq_false_iff_not, decide_eq_false_iff_not] at c
      rcases st5 g.w ho with e | e | e | e | e
      · exact absurd e n0
      · exact absurd e c.1
      · exact absurd e c.2
      · exact absurd e n3
      · exact e
    have := hk M' g'
    rw [decide_eq_true e4] at this
    exact this
theorem i_697 {k6 : Int32 → Int32 → Int32 → Int32 → Int32 → Int32 → Int32 → Int32 → Int32 → Int32 → Int32 → TM → Prop} (g : PV L T R h hr sb S M) (gd : Gd P m0 R) (ho : o < no R) (hk : ∀ M', PV L T R h hr sb S M' → k6 x1 x2 x3 x4 x5 x6 x7 (x8 + bi (decide (og R o 4 = 4))) x9 (urg R) (nI (o + 1)) M') : f_L_isCanal_L697 K k6 x1 x2 x3 x4 x5 x6 x7 x8 x9 (urg R) (nI o) (bi (isHeld R o)) M := by
  unfold f_L_isCanal_L697
  have w := g.w
  have n30 := w.no30
  obtain ⟨b', u', l', d', a1, a2, a3, a4, a5, a6, a7, a8, a9, a10, a11, a12⟩ := gd.2.1.1.1 o ho
  have hd : og R o 4 = 0 ∨ isHeld R o = true → R 0 ≤ og R o 3 := fun e => by
    have al : alive R o = true := by
      rw [alive_iff w ho]
      rcases e with e | e
      · rw [e]; rfl
      · rw [e, Bool.or_true]
    rw [gd.2.1.2, a8]
    exact nI_le (a12 al) (by omega)
  have h2 : og R o 4 = 2 → isHeld R o = true ∧ og R o 7 = 0 := fun e => ⟨by unfold isHeld; rw [e]; rfl, by rw [a7, a11 (Or.inl e)]; rfl⟩
  have h0 : og R o 4 = 0 → isHeld R o = false := fun e => by unfold isHeld; rw [e]; rfl
  have h3 : og R o 4 = 3 → isHeld R o = false ∧ og R o 7 = 0 := fun e => ⟨by unfold isHeld; rw [e]; rfl, by rw [a7, a11 (Or.inr e)]; rfl⟩
  refine t_minute g ?_
  refine t_orderCount g ?_
  refine ⟨by rw [show R 3 = nI (no R) from w.1.1.2.2.1]; exact nI_ne0 (by omega) (by omega), fun _ => ?_, fun _ => ?_⟩
  · refine t_isEaten g rfl ho ?_
    exact i_728 g ho rfl hd (fun e => ⟨h0 e, by rw [e]; rfl⟩) (fun e => ⟨(h3 e).1, by rw [e]; rfl, (h3 e).2⟩) h2 hk
  · refine t_willBeEaten g rfl ho (fun M1 g1 => ?_)
    exact i_728 g1 ho rfl hd (fun e => ⟨h0 e, decide_eq_false (open_not w ho e 200)⟩) (fun e => ⟨(h3 e).1, decide_eq_true (eaten_stays w ho e 200), (h3 e).2⟩) h2 hk
theorem i_680 {z0 z1 : Int32} {k6 : Int32 → Int32 → Int32 → Int32 → Int32 → Int32 → Int32 → Int32 → Int32 → Int32 → Int32 → TM → Prop} (g : PV L T R h hr sb S M) (gd : Gd P m0 R) (ho : o < no R) (hk : ∀ M', PV L T R h hr sb S M' → k6 x1 x2 x3 x4 x5 x6 x7 (x8 + bi (decide (og R o 4 = 4))) (z1 + z0) (urg R) (nI (o + 1)) M') : f_L_isCanal_L680 K k6 x1 x2 x3 x4 x5 x6 x7 x8 (urg R) (nI o) z0 z1 M := by
  unfold f_L_isCanal_L680
  have w := g.w
  have n5 := w.nb5
  refine t_bargeOf g rfl ho ?_
  have key := i_697 (K := K) (x9 := z1 + z0) g gd ho hk
  cases hh : isHeld R o with
  | true =>
    have hh' := hh
    unfold isHeld at hh'
    rw [Bool.or_eq_true, decide_eq_true_eq, decide_eq_true_eq] at hh'
    obtain ⟨b, b1, b2⟩ := own12 w ho hh'
    rw [hh] at key
    exact cN' (by rw [b2]; exact nI_pos (by omega)) key
  | false =>
    have hh' := hh
    unfold isHeld at hh'
    rw [Bool.or_eq_false_iff, decide_eq_false_iff_not, decide_eq_false_iff_not] at hh'
    rw [hh] at key
    exact cT' (by rw [own_no w ho hh'.1 hh'.2]; decide) key
theorem i_656 {z0 z1 : Int32} {k6 : Int32 → Int32 → Int32 → Int32 → Int32 → Int32 → Int32 → Int32 → Int32 → Int32 → Int32 → TM → Prop} (g : PV L T R h hr sb S M) (gd : Gd P m0 R) (ho : o < no R) (hk : ∀ M', PV L T R h hr sb S M' → k6 x1 x2 x3 x4 x5 x6 (z1 + z0) (x8 + bi (decide (og R o 4 = 4))) (x9 + nI (if og R o 4 = 3 then bw R o else 0)) (urg R) (nI (o + 1)) M') : f_L_isCanal_L656 K k6 x1 x2 x3 x4 x5 x6 x8 x9 (urg R) (nI o) z0 z1 M := by
  unfold f_L_isCanal_L656
  refine t_isEaten g rfl ho ?_
  refine pF (fun e => ?_) (fun e => ?_)
  · refine t_bowls g rfl ho ?_
    refine i_680 g gd ho (fun M' g' => ?_)
    have := hk M' g'
    rw [if_pos e, ← (bw_w gd.2.1.1 ho).1] at this
    exact this
  · refine i_680 g gd ho (fun M' g' => ?_)
    have := hk M' g'
    rw [if_neg e] at this
    exact this
theorem i_637 {z0 z1 : Int32} {k6 : Int32 → Int32 → Int32 → Int32 → Int32 → Int32 → Int32 → Int32 → Int32 → Int32 → Int32 → TM → Prop} (g : PV L T R h hr sb S M) (gd : Gd P m0 R) (ho : o < no R) (hk : ∀ M', PV L T R h hr sb S M' → k6 x1 x2 x3 x4 x5 (z1 + z0) (x7 + bi (decide (og R o 4 = 3))) (x8 + bi (decide (og R o 4 = 4))) (x9 + nI (if og R o 4 = 3 then bw R o else 0)) (urg R) (nI (o + 1)) M') : f_L_isCanal_L637 K k6 x1 x2 x3 x4 x5 x7 x8 x9 (urg R) (nI o) z0 z1 M := by
  unfold f_L_isCanal_L637
  refine t_isEaten g rfl ho ?_
  refine pF (fun e => ?_) (fun e => ?_)
  · refine i_656 g gd ho (fun M' g' => ?_)
    have := hk M' g'
    rw [decide_eq_true e] at this
    exact this
  · refine i_656 g gd ho (fun M' g' => ?_)
    have := hk M' g'
    rw [decide_eq_false e] at this
    exact this
theorem cn_s (p : Nat → Bool) (k : Nat) : nI (cn p k) + bi (p k) = nI (cn p (k + 1)) := by
  rw [bi_nI, nI_add]
  congr 1
theorem i_612 (w : WF T R) (gd : Gd P m0 R) (hK : ∀ M', PV L T R h hr sb S M' → K 1 M') (e12 : x1 + x2 = R 2) (e3 : x3 = nI (cIn R 0 + cIn R 1 + cIn R 2)) (e4 : x4 = nI (cIn R 1)) (e5 : x5 = nI (cIn R 2)) : ∀ n k M, k + n = no R → PV L T R h hr sb S M → f_L_isCanal_L612 K (n + 1) x1 x2 x3 x4 x5 (nI (cn (fun o => decide (og R o 4 = 0)) k)) (nI (cn (fun o => decide (og R o 4 = 3)) k)) (nI (cn (fun o => decide (og R o 4 = 4)) k)) (nI (sN (fun o => if og R o 4 = 3 then bw R o else 0) k)) (urg R) (nI k) M := by
  have n30 := w.no30
  have er3 : R 3 = nI (no R) := w.1.1.2.2.1
  intro n
  induction n with
  | zero =>
    intro k M hn g
    have : k = no R := by omega
    subst this
    have c3 := cIn_le R 3
    have c4 := cIn_le R 4
    unfold f_L_isCanal_L612
    refine t_orderCount g ?_
    refine cT' (by rw [er3]; exact nI_le (Nat.le_refl _) (by omega)) ?_
    refine t_bargeCount g ?_
    refine cT e12 ?_
    refine cT (by rw [e3, e4, e5]; show nI _ = nI (cIn R 0) + nI (cIn R 1) + nI (cIn R 2); rw [nI_add, nI_add]) ?_
    refine t_expiredOrders g ?_
    refine cT w.1.2.2.2.2.2.1.symm ?_
    refine t_eatenBowls g ?_
    refine cT (gd.2.1.1.2.1.symm) ?_
    refine t_orderCount g ?_
    refine cT (by rw [e3]; show nI _ + nI (cIn R 3) + nI (cIn R 4) = _; rw [nI_add, nI_add, sum_st w]; exact er3.symm) ?_
    refine t_eatenShare g ?_
    show (¬ nI (cIn R 3) + nI (cIn R 4) = 0 → vf_n32 (FP.fdiv (FP.i2f (nI (cIn R 3))) (FP.i2f (nI (cIn R 3) + nI (cIn R 4)))) ∧ f_L_isCanal_L1031 K (FP.fdiv (FP.i2f (nI (cIn R 3))) (FP.i2f (nI (cIn R 3) + nI (cIn R 4)))) (eS R) M) ∧ (nI (cIn R 3) + nI (cIn R 4) = 0 → f_L_isCanal_L1031 K FP.fconst0 (eS R) M)
    unfold eS
    by_cases hs : cIn R 3 + cIn R 4 = 0
    · rw [if_pos hs]
      exact cT (by rw [nI_add, hs]; rfl) (i_1031 g gd f_0 hK)
    · rw [if_neg hs]
      exact cN (by rw [nI_add]; exact nI_ne0 (by omega) (by omega)) ⟨f_n (by omega) (by omega) (by omega), i_1031 g gd (f_e (by omega) (by omega) (by omega)) hK⟩
  | succ n ih =>
    intro k M hn g
    have hk : k < no R := by omega
    unfold f_L_isCanal_L612
    refine t_orderCount g ?_
    refine cN' (by rw [er3]; exact nI_ge hk (by omega)) ?_
    refine t_isOpen g rfl hk ?_
    have fin : ∀ M', PV L T R h hr sb S M' → f_L_isCanal_L612 K (n + 1) x1 x2 x3 x4 x5 (nI (cn (fun o => decide (og R o 4 = 0)) k) + bi (decide (og R k 4 = 0))) (nI (cn (fun o => decide (og R o 4 = 3)) k) + bi (decide (og R k 4 = 3))) (nI (cn (fun o => decide (og R o 4 = 4)) k) + bi (decide (og R k 4 = 4))) (nI (sN (fun o => if og R o 4 = 3 then bw R o else 0) k) + nI (if og R k 4 = 3 then bw R k else 0)) (urg R) (nI (k + 1)) M' := fun M' g' => by
      have := ih (k + 1) M' (by omega) g'
      rw [← cn_s, ← cn_s, ← cn_s, show sN (fun o => if og R o 4 = 3 then bw R o else 0) (k + 1) = sN (fun o => if og R o 4 = 3 then bw R o else 0) k + (if og R k 4 = 3 then bw R k else 0) from rfl, ← nI_add] at this
      exact this
    refine pF (fun e => ?_) (fun e => ?_)
    · refine i_637 g gd hk (fun M' g' => ?_)
      have := fin M' g'
      rw [decide_eq_true e] at this
      exact this
    · refine i_637 g gd hk (fun M' g' => ?_)
      have := fin M' g'
      rw [decide_eq_false e] at this
      exact this
/-- the law's look at the canal answers true -/
theorem i_isCanal (g : PV L T R h hr sb S M) (gd : Gd P m0 R) (hK : ∀ M', PV L T R h hr sb S M' → K 1 M') : f_L_isCanal M K := by
  have w := g.w
  unfold f_L_isCanal
  refine ⟨_, i_9 w (fun M1 g1 => ⟨_, i_109 w gd.2.2 (fun M2 g2 => ⟨_, i_259 w gd (fun M3 g3 => ⟨_, i_612 w gd hK ?_ ?_ ?_ ?_ (no R) 0 M3 (by omega) g3⟩) (nb R) 0 M2 (by omega) g2⟩) (np R - 1) 0 M1 (by omega) g1⟩) (np R) 0 M (by omega) g⟩
  · rw [nI_add, sum_bar w]
    exact w.1.1.2.1.1.symm
  · rw [sum_ord w]
  · rw [sum_of w (Or.inl rfl)]
  · rw [sum_of w (Or.inr rfl)]
end LOOK3
