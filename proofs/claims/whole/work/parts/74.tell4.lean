/-! calls that tell of queues, flour, ways -/
section TELL4
variable {c' : Bool} {i : Nat} {M M1 M' : TM} {T U : Nat} {K : TM → Prop} {KI : Int32 → TM → Prop} {KV : TM → Prop} {p q u v r2 r4 : Int32} {R R' : Nat → Int32} {a b c d e f j k m x' h nx ci di r : Nat}
theorem m_bout (g : Inv T M) (g1 : Cur T M ci di) (hp : inR p (nb (M 700)) = false) (hK : ∀ M', Inv T M' → K M') {A : TM → Prop} : f_X13_isBarge p M (fun r2 M1 => f_X13_lacks r2 M1 (fun r5 M4 => ((r5 = 0 → A M4) ∧ (¬ r5 = 0 → LawE K 1 (0 : Int32) M4)))) := by
  refine m_barg g1.rw rfl g1.2.2.2.2.2.1.ix ?_
  refine m_lacks rfl ?_
  rw [hp]
  exact cN' (by decide) (finF g hK)
theorem q_queueLength (g : Inv T M) (hK : ∀ M', Inv T M' → K M') : f_L_queueLength p M (fun r2 M1 => f_X13_queueLength p M1 (fun r4 M3 => LawE K r2 r4 M3)) := by
  unfold f_L_queueLength f_X12_queueLength
  obtain ⟨ci, di, nx, h, g1, -⟩ := id g
  have w := g1.2.2.2.2.2.1
  have n5 := w.nb5
  refine c_bargAt g1 (fun j hj ep => some_ok (iBar_at g1 (by omega)) ?_) (fun hp => ⟨rfl, m_bout g g1 hp hK⟩)
  obtain ⟨l, q1, q2, q3⟩ := g1.2.2.2.2.1.2.2.2.2.1 j hj
  intro M4 e4
  rw [q2, q1.len] at e4
  subst e4
  unfold f_X13_queueLength
  refine m_barg (rw710 g1.rw) r710 w.ix ?_
  refine m_lacks rfl ?_
  rw [ep, inR_nI hj (by omega)]
  refine cT' rfl ?_
  refine atS (R := M 700) r7' (F := fun S => f_X13_countOf (nI j) 1 S _) ?_
  refine m_cOf (rr5 g1.rw) w.ix ?_
  rw [uR_self r7']
  exact finT g hK
theorem q_queuedOrder (g : Inv T M) (hK : ∀ M', Inv T M' → K M') : f_L_queuedOrder p q M (fun r2 M1 => f_X13_queuedOrder p q M1 (fun r4 M3 => LawE K r2 r4 M3)) := by
  unfold f_L_queuedOrder f_X12_queuedOrder
  obtain ⟨ci, di, nx, h, g1, -⟩ := id g
  have w := g1.2.2.2.2.2.1
  have n5 := w.nb5
  refine c_bargAt g1 (fun j hj ep => some_ok (iBar_at g1 (by omega)) ?_) (fun hp => ⟨rfl, m_bout g g1 hp hK⟩)
  refine c_queuedAt w g1.2.2.2.2.1 hj ?_
  intro M4 e4
  subst e4
  unfold f_X13_queuedOrder
  refine m_barg (rw710 g1.rw) r710 w.ix ?_
  refine m_lacks rfl ?_
  rw [ep, inR_nI hj (by omega)]
  refine cT' rfl ?_
  refine atS (R := M 700) r7' (F := fun S => f_X13_queued (nI j) q S _) ?_
  refine m_qd (rr5 g1.rw) w.ix ?_
  rw [uR_self r7']
  exact finT g hK
theorem q_readyCount (g : Inv T M) (hK : ∀ M', Inv T M' → K M') : f_L_readyCount p M (fun r2 M1 => f_X13_readyCount p M1 (fun r4 M3 => LawE K r2 r4 M3)) := by
  unfold f_L_readyCount f_X12_readyCount
  obtain ⟨ci, di, nx, h, g1, -⟩ := id g
  have w := g1.2.2.2.2.2.1
  have n5 := w.nb5
  obtain ⟨v1, v2, v3, v4⟩ := g1.in11
  refine c_reqBarge g1 (fun hp => ?_) (fun hp => ⟨rfl, m_bout g g1 hp hK⟩)
  obtain ⟨j, hj, rfl⟩ := inR_of (by omega) hp
  refine ⟨v1, ?_⟩
  rw [v2]
  refine c_held w g1.2.2.2.2.1 ?_
  refine c_bargAt g1 (fun j' hj' ep => some_ok (iBar_at g1 (by omega)) ?_) (fun hp' => by rw [hp] at hp'; cases hp')
  have ej := nI_inj (by omega) (by omega) ep
  subst ej
  obtain ⟨l, q1, q2, q3⟩ := g1.2.2.2.2.1.2.2.2.2.1 j hj
  intro M4 e4
  rw [q2, q1.len, cOf_held, nI_sub (by omega), show cOf (M 700) (nI j) 1 + cOf (M 700) (nI j) 2 - cOf (M 700) (nI j) 1 = cOf (M 700) (nI j) 2 by omega] at e4
  subst e4
  unfold f_X13_readyCount
  refine m_barg (rw710 g1.rw) r710 w.ix ?_
  refine m_lacks rfl ?_
  rw [hp]
  refine cT' rfl ?_
  refine atS (R := M 700) r7' (F := fun S => f_X13_countOf (nI j) 2 S _) ?_
  refine m_cOf (rr5 g1.rw) w.ix ?_
  rw [uR_self r7']
  exact finT g hK
theorem q_flourNeeded (g : Inv T M) (hK : ∀ M', Inv T M' → K M') : f_L_flourNeeded p M (fun r2 M1 => f_X13_flourNeeded p M1 (fun r4 M3 => LawE K r2 r4 M3)) := by
  unfold f_L_flourNeeded f_X12_flourNeeded
  obtain ⟨ci, di, nx, h, g1, -⟩ := id g
  have w := g1.2.2.2.2.2.1
  have n5 := w.nb5
  obtain ⟨v1, v2, v3, v4⟩ := g1.in11
  refine ⟨v1, c_bargAt g1 (fun j hj ep => some_ok (iBar_at g1 (by omega)) ?_) (fun hp => ⟨rfl, m_bout g g1 hp hK⟩)⟩
  rw [v2]
  refine c_sFl w g1.2.2.2.2.1 hj ?_
  intro M4 e4
  subst e4
  unfold f_X13_flourNeeded
  refine m_barg (rw710 g1.rw) r710 w.ix ?_
  refine m_lacks rfl ?_
  rw [ep, inR_nI hj (by omega)]
  refine cT' rfl ?_
  refine atS (R := M 700) r7' (F := fun S => ∃ n, f_X13_flourNeeded_L18 (nI j) _ n (nI j) 0 0 S) ?_
  refine m_sFl (rr5 g1.rw) w.ix ?_
  rw [uR_self r7']
  exact finT g hK
theorem q_nearestBarge (g : Inv T M) (hK : ∀ M', Inv T M' → K M') : f_L_nearestBarge p M (fun r2 M1 => f_X13_nearestBarge p M1 (fun r4 M3 => LawE K r2 r4 M3)) := by
  unfold f_L_nearestBarge f_X12_nearestBarge
  obtain ⟨ci, di, nx, h, g1, -⟩ := id g
  have w := g1.2.2.2.2.2.1
  have n30 := w.no30
  have n16 := w.np16
  have b1 := g1.2.2.2.2.2.2.1
  obtain ⟨v1, v2, v3, v4⟩ := g1.in11
  refine ⟨v1, c_ordeAt g1 (fun j hj ep => some_ok (iOrd_at g1 (by omega)) ?_) (fun hp => ⟨rfl, ?_⟩)⟩
  · rw [v2, (g1.2.2.2.2.1.2.2.2.2.2 j hj).1]
    have ho := (w.2.2.1 j hj).ePl
    refine c_near w g1.2.2.2.2.1 b1 ho.1 ho.2 ?_
    intro M4 e4
    subst e4
    unfold f_X13_nearestBarge
    refine m_orde (rw710 g1.rw) r710 w.ix ?_
    refine m_lacks rfl ?_
    rw [ep, inR_nI hj (by omega)]
    refine cT' rfl ?_
    refine atS (R := M 700) r7' (F := fun S => f_X13_ofOrder (nI j) 0 S _) ?_
    refine m_ofO (rr5 g1.rw) rfl (f := 0) rfl (by omega) (by decide) ?_
    refine m_near (rr5 g1.rw) w.ix b1 (fun b hb => ⟨(w.2.1 b hb).ePl.1, by have := (w.2.1 b hb).ePl.2; omega⟩) ho.1 (by have := ho.2; omega) ?_
    rw [uR_self r7']
    exact finT g hK
  · unfold f_X13_nearestBarge
    refine m_orde g1.rw rfl w.ix ?_
    refine m_lacks rfl ?_
    rw [hp]
    exact cN' (by decide) (finF g hK)
theorem q_sailObstacle (g : Inv T M) (hK : ∀ M', Inv T M' → K M') : f_L_sailObstacle p q M (fun r2 M1 => f_X13_sailObstacle p q M1 (fun r4 M3 => LawE K r2 r4 M3)) := by
  unfold f_L_sailObstacle f_X12_sailObstacle
  obtain ⟨ci, di, nx, h, g1, -⟩ := id g
  have w := g1.2.2.2.2.2.1
  have n5 := w.nb5
  have n16 := w.np16
  obtain ⟨v1, v2, v3, v4⟩ := g1.in11
  have out : ∀ S : TM, S = M → f_X13_sailObstacle_L21 p q (fun r4 M3 => LawE K 1 r4 M3) p q S := fun S e => by
    subst e
    unfold f_X13_sailObstacle_L21 f_X13_sailObstacle_L22
    refine m_lacks (c' := false) rfl ?_
    exact cN' (by decide) (finF g hK)
  refine c_reqBarge g1 (fun hp => c_reqPlace g1 (fun hq => ?_) (fun hq => ⟨rfl, ?_⟩)) (fun hp => ⟨rfl, ?_⟩)
  · obtain ⟨b, hb, rfl⟩ := inR_of (by omega) hp
    obtain ⟨t, ht, rfl⟩ := inR_of (by omega) hq
    refine ⟨v1, ?_⟩
    rw [v2]
    refine c_obs w g1.2.2.2.2.1 rfl hb rfl ht ?_
    intro M4 e4
    subst e4
    unfold f_X13_sailObstacle
    refine m_barg (rw710 g1.rw) r710 w.ix ?_
    rw [hp]
    refine bF (fun _ => ?_) (fun c => by cases c)
    refine m_plac (rw710 g1.rw) r710 w.ix ?_
    rw [hq]
    refine bF (fun _ => ?_) (fun c => by cases c)
    unfold f_X13_sailObstacle_L22
    refine m_lacks (c' := true) rfl ?_
    refine cT' rfl ?_
    have hpl := (w.2.1 b hb).ePl
    refine atS (R := M 700) r7' (F := fun S => f_X13_whyNotSail (nI b) (nI t) S _) ?_
    refine m_obs (rr5 g1.rw) rfl rfl (by omega) (by omega) hpl.1 (by omega) ?_
    rw [uR_self r7']
    exact finT g hK
  · unfold f_X13_sailObstacle
    refine m_barg g1.rw rfl w.ix ?_
    rw [hp]
    refine bF (fun _ => ?_) (fun c => by cases c)
    refine m_plac g1.rw rfl w.ix ?_
    rw [hq]
    exact bF (fun c => by cases c) (fun _ => out M rfl)
  · unfold f_X13_sailObstacle
    refine m_barg g1.rw rfl w.ix ?_
    rw [hp]
    exact bF (fun c => by cases c) (fun _ => out M rfl)
theorem q_journeyTime (g : Inv T M) (hK : ∀ M', Inv T M' → K M') : f_L_journeyTime p q M (fun r2 M1 => f_X13_journeyTime p q M1 (fun r4 M3 => LawE K r2 r4 M3)) := by
  unfold f_L_journeyTime f_X12_journeyTime
  obtain ⟨ci, di, nx, h, g1, -⟩ := id g
  have w := g1.2.2.2.2.2.1
  have n16 := w.np16
  obtain ⟨v1, v2, v3, v4⟩ := g1.in11
  have out : ∀ S : TM, S = M → f_X13_journeyTime_L21 p q (fun r4 M3 => LawE K 1 r4 M3) p q S := fun S e => by
    subst e
    unfold f_X13_journeyTime_L21 f_X13_journeyTime_L22
    refine m_lacks (c' := false) rfl ?_
    exact cN' (by decide) (finF g hK)
  refine c_reqPlace g1 (fun hp => c_reqPlace g1 (fun hq => ?_) (fun hq => ⟨rfl, ?_⟩)) (fun hp => ⟨rfl, ?_⟩)
  · obtain ⟨b, hb, rfl⟩ := inR_of (by omega) hp
    obtain ⟨t, ht, rfl⟩ := inR_of (by omega) hq
    refine ⟨v1, ?_⟩
    rw [v2]
    refine c_tB w g1.2.2.2.2.1 rfl rfl hb ht ?_
    intro M4 e4
    subst e4
    unfold f_X13_journeyTime
    refine m_plac (rw710 g1.rw) r710 w.ix ?_
    rw [hp]
    refine bF (fun _ => ?_) (fun c => by cases c)
    refine m_plac (rw710 g1.rw) r710 w.ix ?_
    rw [hq]
    refine bF (fun _ => ?_) (fun c => by cases c)
    unfold f_X13_journeyTime_L22
    refine m_lacks (c' := true) rfl ?_
    refine cT' rfl ?_
    refine atS (R := M 700) r7' (F := fun S => f_X13_timeFor (nI b) (nI t) S _) ?_
    refine m_tB (rr5 g1.rw) rfl rfl (by omega) (by omega) ?_
    rw [uR_self r7']
    exact finT g hK
  · unfold f_X13_journeyTime
    refine m_plac g1.rw rfl w.ix ?_
    rw [hp]
    refine bF (fun _ => ?_) (fun c => by cases c)
    refine m_plac g1.rw rfl w.ix ?_
    rw [hq]
    exact bF (fun c => by cases c) (fun _ => out M rfl)
  · unfold f_X13_journeyTime
    refine m_plac g1.rw rfl w.ix ?_
    rw [hp]
    exact bF (fun c => by cases c) (fun _ => out M rfl)
end TELL4
