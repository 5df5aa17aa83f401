/-! p65: an act answers true; what it leaves -/
section ACT4
variable {M M1 M' L L' : TM} {T U P m0 n : Nat} {K KI : Int32 → TM → Prop} {p q u v : Int32} {R R' S : Nat → Int32} {a b c d e f j k h ci di t o m : Nat} {hr : Nat → Nat → Int32} {sb : Bool} {x2 x3 x4 x5 x6 x7 x8 x10 x11 x12 x13 x14 x15 x16 x17 x18 x19 : Int32}
theorem tk_q (w : WF T R) (hT : T + 1 < 2 ^ 31) (hb : b < nb R) (ho : o < no R) (h4 : og R o 4 = 0) {l : List Nat} (hq : IsQ R b l) : cOf (aTake R b o) (nI b) 1 = cOf R (nI b) 1 + 1 ∧ qd (aTake R b o) (nI b) (nI (cOf R (nI b) 1)) = nI o := by
  have h := aT_isQ w (by omega) hb ho h4 hb hq
  rw [if_pos rfl] at h
  have e1 := h.len
  have e2 := hq.len
  have l4 := qlen4 w hb hq
  rw [List.length_append, List.length_singleton] at e1
  refine ⟨by omega, ?_⟩
  have hl : (l ++ [o]).length = l.length + 1 := by rw [List.length_append, List.length_singleton]
  rw [← e2, h.qv (by omega), dif_pos (inR_nI (by omega) (by omega))]
  have : ∀ i (hi : i < (l ++ [o]).length), i = l.length → (l ++ [o])[i] = o := fun i hi e => by
    subst e
    rw [List.getElem_append_right (Nat.le_refl _)]
    simp
  rw [this _ _ (nI_clamp (by omega))]
theorem tk_fl (w : WF T R) (gd : Gd P m0 R) (hb : b < nb R) (ho : o < no R) (h4 : og R o 4 = 0) : sFl (aTake R b o) (nI b) = sFl R (nI b) + og R o 1 := by
  have n30 := w.no30
  rw [sFl_fN (gd_take (b := b) gd w ho h4).2.1.1, sFl_fN gd.2.1.1, (bw_w gd.2.1.1 ho).1, nI_add]
  congr 1
  obtain ⟨b', u', l', d', a1, a2, a3, a4, a5, a6, a7, a8, a9, -⟩ := gd.2.1.1.1 o ho
  have eb1 : bw (aTake R b o) o = bw R o := by unfold bw; rw [aT_f R b o (by decide) (by decide) (by decide) (by decide)]
  have key := sN_one (f := fun o' => if bel R o' (nI b) 1 && decide (og R o' 6 = 0) then bw R o' else 0) (g := fun o' => if bel (aTake R b o) o' (nI b) 1 && decide (og (aTake R b o) o' 6 = 0) then bw (aTake R b o) o' else 0) (no R) ho (fun k hk hne => by
    show (if bel (aTake R b o) k (nI b) 1 && decide (og (aTake R b o) k 6 = 0) then bw (aTake R b o) k else 0) = if bel R k (nI b) 1 && decide (og R k 6 = 0) then bw R k else 0
    have e1 : bw (aTake R b o) k = bw R k := by unfold bw; rw [aT_x hne (by decide)]
    rw [aT_bel hne, aT_x hne (by decide), e1])
  have f0 : (if bel R o (nI b) 1 && decide (og R o 6 = 0) then bw R o else 0) = 0 := by
    rw [if_neg]
    unfold bel
    rw [h4, show decide ((0 : Int32) = 1) = false from rfl, Bool.false_and, Bool.false_and]
    decide
  have g0 : (if bel (aTake R b o) o (nI b) 1 && decide (og (aTake R b o) o 6 = 0) then bw (aTake R b o) o else 0) = bw R o := by
    rw [eb1, if_pos]
    unfold bel
    rw [aT_4, aT_5, aT_f R b o (f := 6) (by decide) (by decide) (by decide) (by decide), (a9 h4).1, decide_eq_true (rfl : nI b = nI b)]
    decide
  rw [f0, g0] at key
  unfold fN
  rw [aT_no]
  omega
theorem obs_v (R : Nat → Int32) (b t : Nat) : obs R b t = 0 ∨ obs R b t = 1 ∨ obs R b t = 2 ∨ obs R b t = 3 := by
  unfold obs
  split
  · exact Or.inr (Or.inl rfl)
  · split
    · exact Or.inr (Or.inr (Or.inl rfl))
    · split
      · exact Or.inr (Or.inr (Or.inr rfl))
      · exact Or.inl rfl
theorem jt_congr (h : ∀ j, j < 16 → R' (10 + j) = R (10 + j)) (ha : a ≤ 16) (ht : t ≤ 16) : jt R' a t = jt R a t := by
  unfold jt
  refine sN_congr _ (fun k hk => ?_)
  unfold wt
  rw [h _ (by omega)]
theorem b_617 (g : PV L T R h hr sb S M) (hb : b < nb R) {x8 : Int32} (hx : x8 = bi (inL R b)) (hk : f_L_act_L638 v K x2 u (nI b) x4 x5 x6 (bi (inL R b)) (bi (free R b 0)) M) : f_L_act_L617 v K x2 u (nI b) x4 x5 x6 x8 M := by
  unfold f_L_act_L617 f_L_act_L637
  rw [hx]
  refine bT (fun c => ?_) (fun c => ?_)
  · unfold free at hk
    rw [c] at hk ⊢
    exact hk
  · refine t_placeOf g rfl hb ?_
    unfold free at hk
    rw [c] at hk ⊢
    refine ⟨fun c2 => ?_, fun c2 => ?_⟩
    · rw [decide_eq_false c2] at hk
      exact hk
    · rw [decide_eq_true c2] at hk
      exact hk
/-- the act -/
theorem b_act (g : PV L T R h hr sb S M) (gd : Gd P m0 R) (hm0 : m0 + 60 ≤ 10000) (hT : T + 1 < 2 ^ 31) (h1 : 1 ≤ nb R) (hs : ∀ R', aOpt v R = some R' → ∀ M', PV L (T + 1) R' (min (h + 1) 8) (pushR h hr R) sb S M' → K 1 M') (hn : aOpt v R = none → ∀ M', PV L T R h hr sb S M' → K 1 M') : f_L_act v M K := by
  have w := g.w
  have n5 := w.nb5
  have n16 := w.np16
  have n3' := w.np3
  have n30 := w.no30
  have er1 : R 1 = nI (np R) := w.1.1.1.1
  have er2 : R 2 = nI (nb R) := w.1.1.2.1.1
  have er3 : R 3 = nI (no R) := w.1.1.2.2.1
  have lw := mo_lt (v := v) (n := 24) (by decide)
  have hb : vB v R < nb R := mo_lt h1
  have ht : vT v R < np R := mo_lt (by omega)
  have hsm : ∀ R', aOpt v R = some R' → ∀ M', PV L T R' (min (h + 1) 8) (pushR h hr R) sb S M' → K 1 M' := fun R' e M' g' => hs R' e M' (g'.mono (by omega))
  have lt24 : ∀ x, x < 2 ^ 31 → (nI x ≤ nI (mo v 24) ↔ x ≤ mo v 24) := fun x hx => nI_leI hx (by omega)
  have lt24' : ∀ x, x < 2 ^ 31 → (nI (mo v 24) < nI x ↔ mo v 24 < x) := fun x hx => nI_ltI (by omega) hx
  have eq24 : ∀ x, x < 2 ^ 31 → (nI (mo v 24) = nI x ↔ mo v 24 = x) := fun x hx => nI_eq (by omega) hx
  unfold f_L_act
  refine r_most (n := 24) rfl (by decide) (by decide) ?_
  refine t_bargeCount g ?_
  refine r_most er2 (by omega) (by omega) ?_
  refine t_placeCount g ?_
  refine r_most er1 (by omega) (by omega) ?_
  refine t_orderCount g ?_
  by_cases c6 : mo v 24 < 6
  · refine cN' (fun e => by have := (lt24 6 (by decide)).1 e; omega) ?_
    have ea : aOpt v R = aA v R := if_pos c6
    refine t_sailObstacle (b := vB v R) (t := vT v R) g rfl rfl hb ht ?_
    by_cases o0 : obs R (vB v R) (vT v R) = 0
    · rw [o0]
      refine cT' (by decide) ?_
      have ea' : aOpt v R = some (aSail R (vB v R) (nI (vT v R))) := ea.trans (if_pos o0)
      have ep := (w.2.1 _ hb).ePl
      have ev := (w.2.1 _ hb).eVl
      have hl : inL R (vB v R) = false := Bool.eq_false_iff.2 (fun e => absurd ((obs_1 R _ (vT v R)).1.2 e) (by rw [o0]; decide))
      have v0 : vl R (vB v R) = 0 := by
        rw [inL_vl (w.2.1 _ hb)] at hl
        exact Decidable.not_not.1 (of_decide_eq_false hl)
      refine t_placeOf (b := vB v R) g rfl hb ?_
      refine t_journeyTime (t := vT v R) g ep.1 rfl ep.2 ht ?_
      refine t_sail (b := vB v R) (t := vT v R) g rfl rfl hb ht o0 (fun M1 g1 => ?_)
      have s1 : bg (aSail R (vB v R) (nI (vT v R))) (vB v R) 1 = nI (vT v R) := up_s _ _ _
      have s0 : bg (aSail R (vB v R) (nI (vT v R))) (vB v R) 0 = bg R (vB v R) 0 := aSail_i (by omega)
      have s6 : bg (aSail R (vB v R) (nI (vT v R))) (vB v R) 6 = bg R (vB v R) 6 := aSail_i (by omega)
      have en : nb (aSail R (vB v R) (nI (vT v R))) = nb R := by unfold nb; rw [aSail_i (by omega)]
      have em : np (aSail R (vB v R) (nI (vT v R))) = np R := by unfold np; rw [aSail_i (by omega)]
      refine cT rfl ?_
      refine t_targetOf (b := vB v R) g1 rfl (by rw [en]; exact hb) ?_
      refine cT s1 ?_
      refine t_placeOf (b := vB v R) g1 rfl (by rw [en]; exact hb) ?_
      refine cT s0 ?_
      refine t_sailObstacle (b := vB v R) (t := vT v R) g1 rfl rfl (by rw [en]; exact hb) (by rw [em]; exact ht) ?_
      have il : inL (aSail R (vB v R) (nI (vT v R))) (vB v R) = false := by unfold inL at hl ⊢; rw [s6]; exact hl
      refine cT (by unfold obs; rw [il, if_neg (by decide), if_pos s1]) ?_
      refine t_minutesToTarget (b := vB v R) g1 rfl (by rw [en]; exact hb) (fun M2 g2 => ?_)
      have fin := hsm _ ea' M2 g2
      have hv : vl (aSail R (vB v R) (nI (vT v R))) (vB v R) = 0 := by unfold vl at v0 ⊢; rw [s6]; exact v0
      have hj : nI (jt (aSail R (vB v R) (nI (vT v R))) (pl (aSail R (vB v R) (nI (vT v R))) (vB v R)) (tg (aSail R (vB v R) (nI (vT v R))) (vB v R))) = tB R (pl R (vB v R)) (vT v R) := by
        rw [show pl (aSail R (vB v R) (nI (vT v R))) (vB v R) = pl R (vB v R) by unfold pl; rw [s0], show tg (aSail R (vB v R) (nI (vT v R))) (vB v R) = vT v R by unfold tg; rw [s1, nI_clamp (by omega)], jt_congr (R := R) (fun j hj => aSail_i (by omega)) (by omega) (by omega), tB_jt w ep.2 ht]
      refine ⟨fun _ => fin, fun c => ?_⟩
      refine t_minutesToTarget (b := vB v R) g2 rfl (by rw [en]; exact hb) (fun M3 g3 => ?_)
      rcases mtt_ge g1.w (by rw [en]; exact hb) hv with e | e
      · exact cT e (hsm _ ea' M3 g3)
      · rw [hj] at e
        exact absurd e c
    · have en : aOpt v R = none := ea.trans (if_neg o0)
      have fin := hn en M g
      rcases obs_v R (vB v R) (vT v R) with e | e | e | e
      · exact absurd e o0
      · rw [e]
        refine cN' (by decide) (cT rfl ?_)
        refine t_timeInLock (b := vB v R) g rfl hb ?_
        refine cN' ?_ fin
        have := (obs_1 R _ (vT v R)).1.1 e
        unfold inL at this
        exact of_decide_eq_true this
      · rw [e]
        refine cN' (by decide) (cN (by decide) (cT rfl ?_))
        refine t_targetOf (b := vB v R) g rfl hb ?_
        exact cT ((obs_1 R _ (vT v R)).2.1 e) fin
      · rw [e]
        exact cN' (by decide) (cN (by decide) (cN (by decide) (cT rfl fin)))
  · refine cT' ((lt24 6 (by decide)).2 (by omega)) ?_
    have key223 : aOpt v R = aB v R → f_L_act_L223 v K (v >>> ((4 : Int32) &&& 31)) (nI (vT v R)) (R 3) M := fun ea => by
      refine b_223 (u := vU v) g ht (fun c => hn (ea.trans (if_pos c)) M g) (fun c M' g' => ?_)
      exact hsm _ (ea.trans (if_neg c)) M' g'
    by_cases c8 : mo v 24 < 8
    · refine cT' ((lt24' 8 (by decide)).2 c8) ?_
      exact key223 (by unfold aOpt; rw [if_neg c6, if_pos c8])
    · refine cN' (fun e => c8 ((lt24' 8 (by decide)).1 e)) ?_
      by_cases c0 : no R = 0
      · refine cT (by rw [er3, c0]; rfl) ?_
        exact key223 (by unfold aOpt; rw [if_neg c6, if_neg c8, if_pos c0])
      · refine cN (by rw [er3]; exact nI_ne0 (by omega) (by omega)) ?_
        have ho : vO v R < no R := mo_lt (by omega)
        refine r_most er3 (by omega) (by omega) ?_
        by_cases c12 : mo v 24 < 12
        · refine cN' (fun e => by have := (lt24 12 (by decide)).1 e; omega) ?_
          have ea : aOpt v R = aC v R := by unfold aOpt; rw [if_neg c6, if_neg c8, if_neg c0, if_pos c12]
          have hh := w.2.2.2.2.1 _ hb
          have hh' := hh
          rw [cOf_held] at hh'
          have c4 : ¬ (4 : Int32) < nI (cOf R (nI (vB v R)) 1) := nI_nlt (a := 4) (by omega) (by decide)
          refine t_queueLength (b := vB v R) g rfl hb ?_
          refine t_isOpen (o := vO v R) g rfl ho ?_
          refine pF (fun h4 => ?_) (fun h4 => ?_)
          · refine t_readyCount (b := vB v R) g rfl hb ?_
            by_cases f4 : held R (vB v R) = 4
            · refine cT (by rw [nI_add, ← cOf_held, f4]; rfl) ?_
              exact b_401 g ho c4 (hn (by rw [ea]; unfold aC; rw [if_pos h4, if_pos f4]) M g)
            · refine cN (c := nI (cOf R (nI (vB v R)) 1) + nI (cOf R (nI (vB v R)) 2) = 4) (fun e => f4 (by rw [nI_add, ← cOf_held] at e; exact nI_inj (b := 4) (by omega) (by decide) e)) ?_
              have ea' : aOpt v R = some (aTake R (vB v R) (vO v R)) := by rw [ea]; unfold aC; rw [if_pos h4, if_neg f4]
              obtain ⟨l, hq⟩ := isQ_ex w hb g
              have tq := tk_q w hT hb ho h4 hq
              refine t_flourNeeded (b := vB v R) g rfl hb ?_
              refine t_take (b := vB v R) (o := vO v R) g hT rfl rfl hb ho h4 (by omega) (fun M1 g1 => ?_)
              refine cT (by rw [tq.1, nI_1]) ?_
              refine t_queuedOrder (b := vB v R) g1 rfl (by rw [aT_nb]; exact hb) ?_
              refine cT tq.2 ?_
              refine t_bargeOf (o := vO v R) g1 rfl (by rw [aT_no]; exact ho) ?_
              refine cT (aT_5 R _ _) ?_
              refine t_flourNeeded (b := vB v R) g1 rfl (by rw [aT_nb]; exact hb) ?_
              refine t_bowls (o := vO v R) g1 rfl (by rw [aT_no]; exact ho) ?_
              exact cT (by rw [tk_fl w gd hb ho h4, aT_f R _ _ (by decide) (by decide) (by decide) (by decide)]) (hs _ ea' M1 g1)
          · exact b_401 g ho c4 (hn (by rw [ea]; unfold aC; rw [if_neg h4]) M g)
        · refine cT' ((lt24 12 (by decide)).2 (by omega)) ?_
          by_cases e12 : mo v 24 = 12
          · refine cT ((eq24 12 (by decide)).2 e12) ?_
            have ea : aOpt v R = aD v R := by unfold aOpt; rw [if_neg c6, if_neg c8, if_neg c0, if_neg c12, if_pos e12]
            refine t_bargeOf (o := vO v R) g rfl ho ?_
            by_cases hh : isHeld R (vO v R) = true
            · have ea' : aOpt v R = some (aDrop R (vO v R)) := by rw [ea]; unfold aD; rw [if_pos hh]
              have hh' := hh
              unfold isHeld at hh'
              rw [Bool.or_eq_true, decide_eq_true_eq, decide_eq_true_eq] at hh'
              obtain ⟨b', hb', e5⟩ := own12 w ho hh'
              have ef := aD_f R (vO v R)
              refine cT' (by rw [e5]; exact nI_pos' (by omega)) ?_
              refine t_flour g e5 hb' ?_
              refine t_drop (o := vO v R) g rfl ho hh (fun M1 g1 => ?_)
              refine cT rfl ?_
              refine t_isOpen (o := vO v R) g1 rfl (by rw [aD_no]; exact ho) ?_
              refine cN' (by rw [ef.2.2.2.2.1]; decide) ?_
              refine t_flour g1 e5 (by unfold nb at hb' ⊢; rw [aD_i (by omega)]; exact hb') ?_
              refine cT (aD_i (by omega)) ?_
              refine t_pullsLeft (o := vO v R) g1 rfl (by rw [aD_no]; exact ho) ?_
              refine t_bowls (o := vO v R) g1 rfl (by rw [aD_no]; exact ho) ?_
              refine t_bowls (o := vO v R) g1 rfl (by rw [aD_no]; exact ho) ?_
              refine t_price (o := vO v R) g1 rfl (by rw [aD_no]; exact ho) ?_
              refine cT ?_ (hsm _ ea' M1 g1)
              unfold prc
              rw [ef.2.1, ef.2.2.1, ef.2.2.2.2.2.2.2]
              obtain ⟨b'', u', l', d', a1, a2, a3, a4, a5, a6, -⟩ := gd.2.1.1.1 _ ho
              rw [a5, a6]
              show nI u' * nI b'' + nI 3 * nI b'' = nI b'' * (nI 3 + nI u')
              rw [nI_mul, nI_mul, nI_add, nI_add, nI_mul]
              congr 1
              rw [Nat.mul_add, Nat.mul_comm u', Nat.mul_comm 3, Nat.add_comm]
            · have en : aOpt v R = none := by rw [ea]; unfold aD; rw [if_neg hh]
              have hh' := Bool.eq_false_iff.2 hh
              unfold isHeld at hh'
              rw [Bool.or_eq_false_iff, decide_eq_false_iff_not, decide_eq_false_iff_not] at hh'
              refine cN' (by rw [own_no w ho hh'.1 hh'.2]; decide) ?_
              refine t_isReady (o := vO v R) g rfl ho ?_
              exact cT (by rw [decide_eq_false hh'.2]; rfl) (hn en M g)
          · refine cN (fun e => e12 ((eq24 12 (by decide)).1 e)) ?_
            refine t_timeInLock (b := vB v R) g rfl hb ?_
            have go : f_L_act_L638 v K (nI (mo v 24)) (vU v) (nI (vB v R)) (nI (vT v R)) (R 3) (nI (vO v R)) (bi (inL R (vB v R))) (bi (free R (vB v R) 0)) M := by
              by_cases c15 : mo v 24 < 15
              · have ea : aOpt v R = aE v R := by unfold aOpt; rw [if_neg c6, if_neg c8, if_neg c0, if_neg c12, if_neg e12, if_pos c15]
                refine b_flour g gd hb rfl (fun c => hn ?_ M g) (fun c1 c2 M' g' => hsm _ ?_ M' g') ((lt24' 15 (by decide)).2 c15)
                · rw [ea]
                  unfold aE
                  split
                  · rename_i c1
                    rw [if_pos (c c1)]
                  · rfl
                · rw [ea]
                  unfold aE
                  rw [if_pos c1, if_neg c2]
              · by_cases c17 : mo v 24 < 17
                · have ea : aOpt v R = aF v R := by unfold aOpt; rw [if_neg c6, if_neg c8, if_neg c0, if_neg c12, if_neg e12, if_neg c15, if_pos c17]
                  refine b_coll g gd hb ht rfl (fun c => hn ?_ M g) (fun c1 M' g' => hsm _ ?_ M' g') ((lt24 15 (by decide)).2 (by omega)) (fun e => by have := (lt24 17 (by decide)).1 e; omega)
                  · rw [ea]; unfold aF; rw [if_pos c]
                  · rw [ea]; unfold aF; rw [if_neg (by rw [c1]; decide)]
                · by_cases e17 : mo v 24 = 17
                  · have ea : aOpt v R = aG v R := by unfold aOpt; rw [if_neg c6, if_neg c8, if_neg c0, if_neg c12, if_neg e12, if_neg c15, if_neg c17, if_pos e17]
                    refine b_wash g gd hb rfl (fun c => hn ?_ M g) (fun c1 M' g' => hsm _ ?_ M' g') (by rw [e17]; rfl)
                    · rw [ea]; unfold aG; rw [if_neg (by rw [c]; decide)]
                    · rw [ea]; unfold aG; rw [if_pos c1]
                  · have ea : aOpt v R = some (pmN (vM v) R) := by unfold aOpt; rw [if_neg c6, if_neg c8, if_neg c0, if_neg c12, if_neg e12, if_neg c15, if_neg c17, if_neg e17]
                    exact b_pass g gd hm0 ho hb ((lt24 15 (by decide)).2 (by omega)) ((lt24 17 (by decide)).2 (by omega)) (fun e => e17 ((eq24 17 (by decide)).1 e)) (fun M' g' => hsm _ ea M' g')
            refine ⟨fun c => b_617 (b := vB v R) g hb ?_ go, fun c => b_617 (b := vB v R) g hb ?_ go⟩
            · unfold inL; rw [decide_eq_false (fun n => n c)]; rfl
            · unfold inL; rw [decide_eq_true c]; rfl
end ACT4
