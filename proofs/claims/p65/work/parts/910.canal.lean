/-! p65: a good canal passes the law's look, first part: urgent, near, places and locks -/
section LOOK1
variable {M M1 M' L L' : TM} {T U P m0 : Nat} {K : Int32 → TM → Prop} {R R' S : Nat → Int32} {a b c d e f j k h ci di t o : Nat} {hr : Nat → Nat → Int32} {sb : Bool} {x1 x2 x3 x4 x5 x6 x7 x8 x9 x10 : Int32}
theorem urg_min (R : Nat → Int32) : ∀ o, o < no R → og R o 4 = 0 → ∃ u, u < no R ∧ urg R = nI u ∧ og R u 3 ≤ og R o 3 := by
  have key := fo_inv' (f := fun o y => if decide (og R o 4 = 0) && (decide (y = -1) || decide (og R o 3 < og R y.toNatClampNeg 3)) then nI o else y) (fun k y => k ≤ no R → ((y = -1 ∨ ∃ u, u < no R ∧ y = nI u) ∧ ∀ o, o < k → og R o 4 = 0 → ∃ u, u < no R ∧ y = nI u ∧ og R u 3 ≤ og R o 3)) (n := no R) (a := (-1 : Int32)) (fun _ => ⟨Or.inl rfl, fun o ho => absurd ho (Nat.not_lt_zero _)⟩) (fun k hk y hy hk1 => ?_)
  · exact (key (Nat.le_refl _)).2
  · have hn : no R < 2 ^ 31 := Int32.toNatClampNeg_lt _
    obtain ⟨h1, h2⟩ := hy (by omega)
    by_cases c4 : og R k 4 = 0
    · by_cases c1 : y = -1
      · rw [if_pos (by rw [decide_eq_true c4, decide_eq_true c1]; rfl)]
        refine ⟨Or.inr ⟨k, hk, rfl⟩, fun o ho e4 => ?_⟩
        by_cases ek : o = k
        · subst ek
          exact ⟨o, hk, rfl, Int32.le_refl _⟩
        · obtain ⟨u, u1, u2, -⟩ := h2 o (by omega) e4
          rw [c1] at u2
          exact absurd u2.symm (nI_m1 (by omega))
      · obtain ⟨u, u1, u2⟩ := h1.resolve_left c1
        by_cases c3 : og R k 3 < og R y.toNatClampNeg 3
        · rw [if_pos (by rw [decide_eq_true c4, decide_eq_true c3, Bool.or_true]; rfl)]
          refine ⟨Or.inr ⟨k, hk, rfl⟩, fun o ho e4 => ⟨k, hk, rfl, ?_⟩⟩
          by_cases ek : o = k
          · subst ek
            exact Int32.le_refl _
          · obtain ⟨v, v1, v2, v3⟩ := h2 o (by omega) e4
            rw [v2, nI_clamp (by omega)] at c3
            exact Int32.le_of_lt (Int32.lt_of_lt_of_le c3 v3)
        · rw [if_neg (by rw [decide_eq_true c4, decide_eq_false c1, decide_eq_false c3]; decide)]
          refine ⟨Or.inr ⟨u, u1, u2⟩, fun o ho e4 => ?_⟩
          by_cases ek : o = k
          · subst ek
            refine ⟨u, u1, u2, ?_⟩
            rw [u2, nI_clamp (by omega)] at c3
            exact Int32.not_lt.1 c3
          · exact h2 o (by omega) e4
    · rw [if_neg (by rw [decide_eq_false c4, Bool.false_and]; decide)]
      refine ⟨h1, fun o ho e4 => ?_⟩
      by_cases ek : o = k
      · subst ek
        exact absurd e4 c4
      · exact h2 o (by omega) e4
theorem near_min (R : Nat → Int32) (q : Nat) : ∀ b, b < nb R → tB R (pl R (near R q)) q ≤ tB R (pl R b) q := by
  intro b hb
  have key := fo_inv' (f := fun k y => if tB R (pl R (k + 1)) q < tB R (pl R y) q then k + 1 else y) (fun k y => ∀ b, b ≤ k → tB R (pl R y) q ≤ tB R (pl R b) q) (n := nb R - 1) (a := 0) (fun b hb => by
    have : b = 0 := by omega
    subst this
    exact Int32.le_refl _) (fun k hk y hy b hb => ?_)
  · exact key b (by omega)
  · show tB R (pl R (if tB R (pl R (k + 1)) q < tB R (pl R y) q then k + 1 else y)) q ≤ tB R (pl R b) q
    by_cases c : tB R (pl R (k + 1)) q < tB R (pl R y) q
    · rw [if_pos c]
      by_cases e : b = k + 1
      · subst e
        exact Int32.le_refl _
      · exact Int32.le_of_lt (Int32.lt_of_lt_of_le c (hy b (by omega)))
    · rw [if_neg c]
      by_cases e : b = k + 1
      · subst e
        exact Int32.not_lt.1 c
      · exact hy b (by omega)
theorem i_893 {k6 : Int32 → Int32 → Int32 → Int32 → Int32 → Int32 → Int32 → Int32 → Int32 → Int32 → Int32 → TM → Prop} (w : WF T R) (ho : o < no R) (hk : ∀ M', PV L T R h hr sb S M' → k6 x1 x2 x3 x4 x5 x6 x7 x8 x9 x10 (nI (o + 1)) M') : ∀ n k M, k + n = nb R → PV L T R h hr sb S M → f_L_isCanal_L893 K k6 (n + 1) x1 x2 x3 x4 x5 x6 x7 x8 x9 x10 (nI o) (nI (near R (fop R o))) (nI k) M := by
  have n5 := w.nb5
  have n16 := w.np16
  have e2 : R 2 = nI (nb R) := w.1.1.2.1.1
  have eo := (w.2.2.1 o ho).ePl
  intro n
  induction n with
  | zero =>
    intro k M hn g
    unfold f_L_isCanal_L893
    refine t_bargeCount g ?_
    refine cT' (by rw [e2]; exact nI_le (by omega) (by omega)) ?_
    rw [nI_1]
    exact hk M g
  | succ n ih =>
    intro k M hn g
    unfold f_L_isCanal_L893
    have hkb : k < nb R := by omega
    have hN := near_lt (R := R) (fop R o) (by omega)
    refine t_bargeCount g ?_
    refine cN' (by rw [e2]; exact nI_ge hkb (by omega)) ?_
    refine t_placeOf g rfl hkb ?_
    refine t_orderPlace g rfl ho ?_
    refine t_journeyTime g (w.2.1 k hkb).ePl.1 eo.1 (w.2.1 k hkb).ePl.2 eo.2 ?_
    refine t_placeOf g rfl hN ?_
    refine t_orderPlace g rfl ho ?_
    refine t_journeyTime g (w.2.1 _ hN).ePl.1 eo.1 (w.2.1 _ hN).ePl.2 eo.2 ?_
    refine cT' (near_min R (fop R o) k hkb) ?_
    rw [nI_1]
    exact ih (k + 1) M (by omega) g
theorem i_882 {k6 : Int32 → Int32 → Int32 → Int32 → Int32 → Int32 → Int32 → Int32 → Int32 → Int32 → Int32 → TM → Prop} (g : PV L T R h hr sb S M) (ho : o < no R) (hk : ∀ M', PV L T R h hr sb S M' → k6 x1 x2 x3 x4 x5 x6 x7 x8 x9 x10 (nI (o + 1)) M') : f_L_isCanal_L882 K k6 x1 x2 x3 x4 x5 x6 x7 x8 x9 x10 (nI o) M := by
  unfold f_L_isCanal_L882
  refine t_nearestBarge g rfl ho ?_
  exact ⟨_, i_893 g.w ho hk (nb R) 0 M (by omega) g⟩
/-- places: who is there, and the journeys add up -/
theorem i_9 (w : WF T R) (hend : ∀ M', PV L T R h hr sb S M' → ∃ n109, f_L_isCanal_L109 K n109 (nI (sN (fun s => cAt R (nI s)) (np R))) 0 (nI (sN (fun s => cOrd R (nI s)) (np R))) 0 M') : ∀ n k M, k + n = np R → PV L T R h hr sb S M → f_L_isCanal_L9 K (n + 1) (nI (sN (fun s => cAt R (nI s)) k)) 0 (nI (sN (fun s => cOrd R (nI s)) k)) (nI k) M := by
  have n16 := w.np16
  have n3 := w.np3
  have e1 : R 1 = nI (np R) := w.1.1.1.1
  have em : R 1 - 1 = nI (np R - 1) := by rw [e1, show (1 : Int32) = nI 1 from rfl, nI_sub (by omega)]
  intro n
  induction n with
  | zero =>
    intro k M hn g
    unfold f_L_isCanal_L9
    refine t_placeCount g ?_
    refine cT' (by rw [e1]; exact nI_le (by omega) (by omega)) ?_
    have : k = np R := by omega
    subst this
    exact hend M g
  | succ n ih =>
    intro k M hn g
    unfold f_L_isCanal_L9
    have hk : k < np R := by omega
    refine t_placeCount g ?_
    refine cN' (by rw [e1]; exact nI_ge hk (by omega)) ?_
    refine t_bargesAt g rfl hk ?_
    refine t_ordersAt g rfl hk ?_
    refine t_journeyTime g rfl rfl hk hk ?_
    refine cT (by rw [tB_jt w hk hk, jt_self]; rfl) ?_
    refine t_journeyTime (a := 0) g rfl rfl (by omega) hk ?_
    refine t_placeCount g ?_
    refine t_journeyTime g rfl em hk (by omega) ?_
    refine t_placeCount g ?_
    refine t_journeyTime (a := 0) g rfl em (by omega) (by omega) ?_
    refine cT (by rw [tB_jt w (by omega) hk, tB_jt w hk (by omega), tB_jt w (by omega) (by omega), nI_add, jt_add (by omega) (by omega)]) ?_
    refine t_journeyTime (t := 0) g rfl rfl hk (by omega) ?_
    refine t_journeyTime (a := 0) g rfl rfl (by omega) hk ?_
    refine cT' (by rw [tB_jt w (by omega) hk, tB_jt w hk (by omega), jt_sym]) ?_
    rw [nI_add, nI_add, nI_1]
    exact ih (k + 1) M (by omega) g
theorem who_c (R : Nat → Int32) (s : Int32) : who R s = -1 ∨ ∃ b, b < nb R ∧ who R s = nI b ∧ inL R b = true ∧ ahead R b = s := by
  unfold who
  rcases ff_cases (fun b => inL R b && decide (ahead R b = s)) (nb R) with ⟨h1, -⟩ | ⟨k, h1, h2, h3, -⟩
  · exact Or.inl h1
  · rw [Bool.and_eq_true, decide_eq_true_eq] at h3
    exact Or.inr ⟨k, h1, h2, h3.1, h3.2⟩
theorem i_227 {k1 : Int32 → Int32 → Int32 → Int32 → TM → Prop} (g : PV L T R h hr sb S M) (hb : b < nb R) (hne : ¬ bg R b 1 = bg R b 0) (hk : k1 x1 x2 x3 (x4 + 1) M) : f_L_isCanal_L227 K k1 x1 x2 x3 x4 (nI b) M := by
  unfold f_L_isCanal_L227
  refine t_targetOf g rfl hb ?_
  refine t_placeOf g rfl hb ?_
  exact cN hne hk
theorem i_199 {k1 : Int32 → Int32 → Int32 → Int32 → TM → Prop} (g : PV L T R h hr sb S M) (hb : b < nb R) (hne : ¬ bg R b 1 = bg R b 0) (hd : ¬ bg R b 0 ≤ bg R b 1 → bg R b 0 = x4 + 1) (hk : k1 x1 x2 x3 (x4 + 1) M) : f_L_isCanal_L199 K k1 x1 x2 x3 x4 (nI b) M := by
  unfold f_L_isCanal_L199
  refine t_targetOf g rfl hb ?_
  refine t_placeOf g rfl hb ?_
  refine ⟨fun _ => i_227 g hb hne hk, fun c => ?_⟩
  refine t_placeOf g rfl hb ?_
  exact cT (hd c) (i_227 g hb hne hk)
/-- locks: one barge at most in each, no longer than it waits, and on its way -/
theorem i_109 (w : WF T R) (gl : GL R) (hend : ∀ M', PV L T R h hr sb S M' → ∃ n259, f_L_isCanal_L259 K n259 x1 (nI (sN (fun s => if who R (nI s) = -1 then 0 else 1) (np R - 1))) x3 0 0 0 M') : ∀ n k M, k + n = np R - 1 → PV L T R h hr sb S M → f_L_isCanal_L109 K (n + 1) x1 (nI (sN (fun s => if who R (nI s) = -1 then 0 else 1) k)) x3 (nI k) M := by
  have n16 := w.np16
  have n3 := w.np3
  have n5 := w.nb5
  have e1 : R 1 = nI (np R) := w.1.1.1.1
  have em : R 1 - 1 = nI (np R - 1) := by rw [e1, show (1 : Int32) = nI 1 from rfl, nI_sub (by omega)]
  intro n
  induction n with
  | zero =>
    intro k M hn g
    unfold f_L_isCanal_L109
    refine t_placeCount g ?_
    refine cT' (by rw [em]; exact nI_le (by omega) (by omega)) ?_
    have : k = np R - 1 := by omega
    subst this
    exact hend M g
  | succ n ih =>
    intro k M hn g
    unfold f_L_isCanal_L109
    have hk : k < np R - 1 := by omega
    have ih' := ih (k + 1) M (by omega) g
    refine t_placeCount g ?_
    refine cN' (by rw [em]; exact nI_ge hk (by omega)) ?_
    refine t_bargeInLock g rfl hk ?_
    rcases who_c R (nI k) with hw | ⟨b, hb, hw, hi, ha⟩
    · refine cN' (by rw [hw]; decide) ?_
      rw [nI_1]
      have : sN (fun s => if who R (nI s) = -1 then 0 else 1) (k + 1) = sN (fun s => if who R (nI s) = -1 then 0 else 1) k := by
        show sN _ k + (if who R (nI k) = -1 then 0 else 1) = _
        rw [if_pos hw]
        rfl
      rw [this] at ih'
      exact ih'
    · have : sN (fun s => if who R (nI s) = -1 then 0 else 1) (k + 1) = sN (fun s => if who R (nI s) = -1 then 0 else 1) k + 1 := by
        show sN _ k + (if who R (nI k) = -1 then 0 else 1) = _
        rw [if_neg (by rw [hw]; exact nI_m1 (by omega))]
      rw [this, ← nI_1, ← nI_1] at ih'
      have wb := w.2.1 b hb
      have ev := wb.eVl
      have hv : vl R b ≠ 0 := by
        rw [inL_vl wb] at hi
        exact of_decide_eq_true hi
      have hp := ev.2.2 hv
      have h0 := wb.ePl
      have h1 := wb.eTg
      have hl := gl b k hb (by omega) hi ha
      have hwk := wt_w w (j := k) (by omega)
      rw [ev.1, hwk.1, nI_leI (by omega) (by omega)] at hl
      have hne : ¬ bg R b 1 = bg R b 0 := by
        rw [h0.1, h1.1]
        exact fun e => hp (nI_inj (by omega) (by omega) e).symm
      have hah : (bg R b 1 ≤ bg R b 0 → bg R b 0 = nI k + 1) ∧ (¬ bg R b 1 ≤ bg R b 0 → bg R b 0 = nI k) := by
        unfold ahead at ha
        refine ⟨fun c => ?_, fun c => ?_⟩
        · rw [if_pos c] at ha
          rw [← ha]
          exact (Int32.sub_add_cancel _ _).symm
        · rw [if_neg c] at ha
          exact ha
      have hd : ¬ bg R b 0 ≤ bg R b 1 → bg R b 0 = nI k + 1 := fun c => hah.1 (by
        rw [h0.1, h1.1, nI_leI (by omega) (by omega)] at c ⊢
        omega)
      refine cT' (by rw [hw]; exact nI_pos' (by omega)) ?_
      refine t_lockWait g rfl hk ?_
      refine cN' (by rw [hwk.1]; exact nI_ne0 (by omega) (by omega)) ?_
      rw [hw]
      refine t_timeInLock g rfl hb ?_
      refine cN' (by rw [ev.1]; exact nI_nlt (b := 1) (by omega) (by omega)) ?_
      refine t_timeInLock g rfl hb ?_
      refine t_lockWait g rfl hk ?_
      refine cN' (by rw [ev.1, hwk.1]; exact nI_nlt hl (by omega)) ?_
      refine t_targetOf g rfl hb ?_
      refine t_placeOf g rfl hb ?_
      refine ⟨fun _ => i_199 g hb hne hd ih', fun c => ?_⟩
      refine t_placeOf g rfl hb ?_
      exact cT (hah.2 c) (i_199 g hb hne hd ih')
end LOOK1
