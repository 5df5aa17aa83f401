/-! minutesToTarget, willBeEaten, coinsAfter -/
def mtt (R : Nat → Int32) (b : Nat) : Int32 := ff (fun k => !sails (pmN k R) b) 201
section FORESEE
variable {c' : Bool} {i : Nat} {M M1 M' S S' : TM} {T U : Nat} {K : TM → Prop} {KI KL : Int32 → TM → Prop} {KV : TM → Prop} {X : String → TM → Prop} {p q u v z : Int32} {R R' : Nat → Int32} {a b c d e f j k m x' h nx ci di r o t s n' : Nat}
/-- the canal and the row laid back: the invariant stands -/
theorem Inv.lay (g1 : Cur T M ci di) (g2 : His T M nx h) (g3 : Snap T M) (g4 : Txt M) (g5 : Out M) (h0 : ∀ i, (i < 27 + 61 * di ∨ 27 + 61 * di + 61 ≤ i) → i ≠ 699 → i ≠ 700 → i ≠ 702 → i ≠ 710 → M' i = M i) (h9 : ∀ j, j ≠ 8 → j ≠ 10 → M' 699 j = M 699 j) (rq : REq (M 700) (M' 700)) : Inv T M' := by
  obtain ⟨q1, q2, q3, q4, q5, q6, q7⟩ := id g1
  have n5 := q6.nb5
  have n30 := q6.no30
  have fr : ∀ i, i < 576 ∨ i = 698 ∨ i = 704 ∨ i = 705 ∨ i = 706 ∨ i = 707 → M' i = M i := fun i hi => h0 i (by omega) (by omega) (by omega) (by omega) (by omega)
  refine ⟨ci, di, nx, h, ?_, g2.fr (fr 25 (by omega)) (fun i i1 i2 => fr i (by omega)) (h9 7 (by decide) (by decide)) (fr 705 (by omega)), g3.fr (by rw [fr 0 (by omega)]) (fun i i1 i2 => fr i (by omega)) (h9 11 (by decide) (by decide)) (fr 704 (by omega)), g4.fr (by rw [fr 1 (by omega)]; exact ⟨rfl, rfl, rfl⟩) (fr 2 (by omega)) ⟨h9 15 (by decide) (by decide), h9 9 (by decide) (by decide), h9 22 (by decide) (by decide)⟩ (fr 707 (by omega)), g5.fr (by rw [fr 0 (by omega)]) (fr 698 (by omega)) (h9 13 (by decide) (by decide)) (fr 706 (by omega))⟩
  unfold Cur
  rw [fr 0 (by omega), h9 6 (by decide) (by decide)]
  exact ⟨q1, q2, q3, q4, (q5.frame (fun i i1 i2 => h0 i (by omega) (by omega) (by omega) (by omega) (by omega)) n5 n30).row q6 rq, q6.row rq, q7.row q6 rq⟩
/-- the model foresees and lays back -/
theorem m_foresee (hr : Rw S 700) (hR : S 700 = R) (w : WF T R) (e1 : p = nI m) (hm : m < 1000) (hK : ∀ S', (∀ i, i ≠ 702 → S' i = S i) → REq R (S' 702) → KV (uR S' 700 (pmN m R))) : f_X13_foresee p S KV := by
  unfold f_X13_foresee
  refine ⟨hr.v' hR, ?_⟩
  rw [hr.cc hR]
  refine m_copyRow rfl rfl (Nat.le_refl _) (Nat.le_refl _) (by decide) (by decide) (fun S' s1 s2 => ?_)
  rw [hR] at s2
  have hR' : S' 700 = R := (s1 700 (by decide)).trans hR
  have hr' : Rw S' 700 := rwS hr (fun j _ _ => by rw [s1 699 (by decide)])
  refine atS hR' (F := fun S => f_X13_pass p S _) ?_
  exact m_pass hr' w e1 hm (hK S' s1 s2)
theorem m_laid (hr : Rw S 700) (hK : ∀ S', (∀ i, i ≠ 700 → S' i = S i) → REq (S 702) (S' 700) → KI p S') : f_X13_laidBack p S KI := by
  unfold f_X13_laidBack
  refine ⟨hr.v' rfl, ?_⟩
  rw [hr.cc rfl]
  exact m_copyRow rfl rfl (Nat.le_refl _) (Nat.le_refl _) (by decide) (by decide) hK
/-- the draft of the class -/
theorem c_draft (g1 : Cur T M ci di) (hK : ∀ M', FrC (27 + 61 * di) M M' → RelC (27 + 61 * di) M' (M 700) → KV M') : f_X2_copyFrom (27 + 61 * (M 0 6).toNatClampNeg) (27 + 61 * (M 0 5).toNatClampNeg) M KV := by
  obtain ⟨q1, q2, q3, q4, q5, q6, q7⟩ := id g1
  rw [g1.di11.2, g1.in11.2.1]
  exact c_copy q6 q5 (by omega) hK
theorem di_at (g1 : Cur T M ci di) (f : FrC (27 + 61 * di) M M') : vp_in (M' 0 6) 11 ∧ 27 + 61 * (M' 0 6).toNatClampNeg = 27 + 61 * di := by
  rw [f 0 (by omega)]
  exact g1.di11
/-- coinsAfter -/
theorem q_coinsAfter (g : Inv T M) (hK : ∀ M', Inv T M' → K M') : f_L_coinsAfter p M (fun r2 M1 => f_X13_coinsAfter p M1 (fun r4 M3 => LawE K r2 r4 M3)) := by
  unfold f_L_coinsAfter f_X12_coinsAfter
  obtain ⟨ci, di, nx, h, g1, g2, g3, g4, g5⟩ := id g
  have hci := g1.1
  have w := g1.2.2.2.2.2.1
  refine c_rng (fun q1 q2 => ⟨g1.di11.1, g1.in11.1, ?_⟩) (fun hq => ⟨rfl, ?_⟩)
  · obtain ⟨m, hm, rfl⟩ := rng_of (n' := 200) (by decide) q1 q2 (by decide)
    refine c_draft g1 (fun M1 f1 r1 => ?_)
    obtain ⟨d1, d2⟩ := di_at g1 f1
    refine ⟨d1, ?_⟩
    rw [d2]
    refine c_pass w r1 rfl (by omega) (fun M2 f2 r2' => ?_)
    obtain ⟨d3, d4⟩ := di_at g1 (f1.trans f2)
    refine ⟨d3, ?_⟩
    rw [d4, r2'.1.2.2.2.2.1]
    intro M3 e3
    have f3 : ∀ i, (i < 27 + 61 * di ∨ 27 + 61 * di + 61 ≤ i) → i ≠ 710 → M3 i = M i := fun i i1 i2 => by rw [e3, u2_n i2, f2 i i1, f1 i i1]
    have e39 : M3 699 = M 699 := f3 699 (by omega) (by decide)
    unfold f_X13_coinsAfter
    refine m_inRange ?_
    refine m_lacks rfl ?_
    rw [decide_eq_true (show (0 : Int32) ≤ nI m ∧ nI m ≤ 200 from ⟨q1, q2⟩)]
    refine cT' rfl ?_
    have hr4 : Rw (u2 M3 699 8 (bi (!true))) 700 := Rw.u _ _ (by decide) (rwS g1.rw (fun j _ _ => by rw [e39]))
    have hR4 : (u2 M3 699 8 (bi (!true))) 700 = M 700 := by rw [u2_n (by decide), f3 700 (by omega) (by decide)]
    refine m_foresee hr4 hR4 w rfl (by omega) (fun S s1 s2 => ?_)
    have hrS : Rw S 700 := rwS hr4 (fun j _ _ => by rw [s1 699 (by decide)])
    refine ⟨hrS.v _, vv4, ?_⟩
    rw [hrS.rd (x := 4) (i := 4) rfl (by decide)]
    refine m_laid (hrS.to _) (fun S' t1 t2 => ?_)
    rw [uR_n (by decide)] at t2
    have k9 : S' 699 = (u2 M3 699 8 (bi (!true))) 699 := by rw [t1 699 (by decide), uR_n (by decide), s1 699 (by decide)]
    refine lawE (by rw [k9, u2_s]; rfl) (fun _ => by rw [t1 710 (by decide), uR_n (by decide), s1 710 (by decide), u2_n (by decide), e3, u2_s]) (hK S' ?_)
    refine Inv.lay g1 g2 g3 g4 g5 (fun i i1 i2 i3 i4 i5 => by rw [t1 i i3, uR_n i3, s1 i i4, u2_n i2, f3 i i1 i5]) (fun j j1 j2 => by rw [k9, u2_f j1, e39]) (s2.trans t2)
  · unfold f_X13_coinsAfter
    refine m_inRange ?_
    refine m_lacks rfl ?_
    rw [decide_eq_false hq]
    exact cN' (by decide) (finF g hK)
/-- willBeEaten -/
theorem q_willBeEaten (g : Inv T M) (hK : ∀ M', Inv T M' → K M') : f_L_willBeEaten p M (fun r2 M1 => f_X13_willBeEaten p M1 (fun r4 M3 => LawB K r2 r4 M3)) := by
  unfold f_L_willBeEaten f_X12_willBeEaten
  obtain ⟨ci, di, nx, h, g1, g2, g3, g4, g5⟩ := id g
  have hci := g1.1
  have w := g1.2.2.2.2.2.1
  have n30 := w.no30
  refine c_reqOrder g1 (fun hp => ⟨g1.di11.1, g1.in11.1, ?_⟩) (fun hp => ⟨rfl, ?_⟩)
  · obtain ⟨o, ho, rfl⟩ := inR_of (by omega) hp
    refine c_draft g1 (fun M1 f1 r1 => ?_)
    obtain ⟨d1, d2⟩ := di_at g1 f1
    refine ⟨d1, ?_⟩
    rw [d2]
    refine c_pass w r1 (m := 200) rfl (by omega) (fun M2 f2 r2' => ?_)
    obtain ⟨d3, d4⟩ := di_at g1 (f1.trans f2)
    refine ⟨d3, ?_⟩
    rw [d4]
    obtain ⟨w2, -, -, n3⟩ := pmN_w w 200
    have en : no (pmN 200 (M 700)) = no (M 700) := by unfold no; rw [n3]
    unfold f_X2_wasEaten
    refine c_hasOrder w2 r2' ?_
    rw [en, hp]
    refine bF (fun _ => ?_) (fun c => by cases c)
    have hO := r2'.2.2.2.2.2 o (by rw [en]; exact ho)
    refine ⟨vp_in_nI (by omega) (by decide), ?_⟩
    rw [nI_clamp (by omega), hO.2.2.2.2.2.2.1]
    refine ⟨WO.st w2 (by rw [en]; exact ho), ?_⟩
    refine rt1 (K := fun r2 M1 => ((r2 = 0 → ∀ M5, M5 = u2 M1 710 0 (0 : Int32) → f_X13_willBeEaten (nI o) M5 (fun r4 M3 => LawB K 0 r4 M3)) ∧ (¬ r2 = 0 → ∀ M6, M6 = u2 M1 710 0 (1 : Int32) → f_X13_willBeEaten (nI o) M6 (fun r4 M3 => LawB K 0 r4 M3)))) ?_
    refine lay_b (F := fun r2 M1 => f_X13_willBeEaten (nI o) M1 (fun r4 M3 => LawB K r2 r4 M3)) ?_
    obtain ⟨M3, e3⟩ : ∃ M3, M3 = u2 M2 710 0 (bi (decide (og (pmN 200 (M 700)) o 4 = 3))) := ⟨_, rfl⟩
    rw [← e3]
    have f3 : ∀ i, (i < 27 + 61 * di ∨ 27 + 61 * di + 61 ≤ i) → i ≠ 710 → M3 i = M i := fun i i1 i2 => by rw [e3, u2_n i2, f2 i i1, f1 i i1]
    have e39 : M3 699 = M 699 := f3 699 (by omega) (by decide)
    have hr3 : Rw M3 700 := rwS g1.rw (fun j _ _ => by rw [e39])
    have hR3 : M3 700 = M 700 := f3 700 (by omega) (by decide)
    unfold f_X13_willBeEaten
    refine m_orde hr3 hR3 w.ix ?_
    refine m_lacks rfl ?_
    rw [hp]
    refine cT' rfl ?_
    have hr4 : Rw (u2 M3 699 8 (bi (!true))) 700 := Rw.u _ _ (by decide) hr3
    have hR4 : (u2 M3 699 8 (bi (!true))) 700 = M 700 := by rw [u2_n (by decide)]; exact hR3
    refine m_foresee hr4 hR4 w (m := 200) rfl (by omega) (fun S s1 s2 => ?_)
    have hrS : Rw S 700 := rwS hr4 (fun j _ _ => by rw [s1 699 (by decide)])
    refine m_isIn hrS rfl (by omega) ?_
    have fin : ∀ (cc : Bool) (v : Int32), cc = decide (og (pmN 200 (M 700)) o 4 = 3) → v = bi cc → f_X13_laidBack v (uR S 700 (pmN 200 (M 700))) (fun r14 M13 => ((¬ r14 = (1 : Int32) → LawB K 0 0 M13) ∧ (r14 = (1 : Int32) → LawB K 0 1 M13))) := fun cc v ec ev => by
      refine m_laid (hrS.to _) (fun S' t1 t2 => ?_)
      rw [uR_n (by decide)] at t2
      have k9 : S' 699 = (u2 M3 699 8 (bi (!true))) 699 := by rw [t1 699 (by decide), uR_n (by decide), s1 699 (by decide)]
      have k10 : S' 710 0 = bi cc := by rw [t1 710 (by decide), uR_n (by decide), s1 710 (by decide), u2_n (by decide), e3, u2_s, ec]
      have iv : Inv T S' := Inv.lay g1 g2 g3 g4 g5 (fun i i1 i2 i3 i4 i5 => by rw [t1 i i3, uR_n i3, s1 i i4, u2_n i2, f3 i i1 i5]) (fun j j1 j2 => by rw [k9, u2_f j1, e39]) (s2.trans t2)
      have k8 : S' 699 8 = 0 := by rw [k9, u2_s]; rfl
      rw [ev]
      cases cc with
      | true => exact cT (show bi true = 1 from rfl) (lawB (c' := true) k8 (fun _ => ⟨k10, rfl⟩) (hK S' iv))
      | false => exact cN (show ¬ bi false = 1 by decide) (lawB (c' := false) k8 (fun _ => ⟨k10, rfl⟩) (hK S' iv))
    exact pF (fun c1 => fin true 1 (decide_eq_true c1).symm rfl) (fun c1 => fin false 0 (decide_eq_false c1).symm rfl)
  · unfold f_X13_willBeEaten
    refine m_orde g1.rw rfl w.ix ?_
    refine m_lacks rfl ?_
    rw [hp]
    exact cN' (by decide) (finFB g hK)
/-- minutesToTarget -/
theorem c_sailing (w : WF T R) (rl : RelC c M R) (hb : b < nb R) (hK : KI (bi (sails R b)) M) : f_X2_isSailing c (nI b) M KI := by
  have n5 := w.nb5
  unfold f_X2_isSailing
  refine c_hasBarge w rl ?_
  rw [inR_nI hb (by omega)]
  refine bF (fun _ => ⟨vp_in_nI (by omega) (by decide), ?_⟩) (fun c => by cases c)
  rw [nI_clamp (by omega)]
  refine c_underWay rl hb ?_
  cases hs : sails R b with
  | true => rw [hs] at hK; exact cN' (by decide) hK
  | false => rw [hs] at hK; exact cT' (by decide) hK
theorem pmN_succ (R : Nat → Int32) (k : Nat) : pm (pmN k R) = pmN (k + 1) R := rfl
theorem pmN_1 (R : Nat → Int32) (k : Nat) : pmN 1 (pmN k R) = pmN (k + 1) R := rfl
theorem mtt_at (hk : k < 201) (h1 : ∀ j, j < k → sails (pmN j R) b = true) (h0 : sails (pmN k R) b = false) : mtt R b = nI k := ff_some hk (by rw [h0]; rfl) (fun j hj => by rw [h1 j hj]; rfl)
theorem mtt_no (h1 : ∀ j, j < 201 → sails (pmN j R) b = true) : mtt R b = -1 := ff_none (fun j hj => by rw [h1 j hj]; rfl)
theorem c_until (g1 : Cur T M ci di) (w : WF T R) (hb : b < nb R) (e0 : S 0 = M 0) (rl : RelC (27 + 61 * di) S R) (hK : ∀ S', FrC (27 + 61 * di) S S' → KI (mtt R b) S') : ∃ n, f_X12_minutesToTarget_L18 p KI X n (nI b) 0 S := by
  have hci := g1.1
  refine ⟨_, inv_loop (fun m (s : TM) k => f_X12_minutesToTarget_L18 p KI X m (nI b) (nI k) s) (fun k s => FrC (27 + 61 * di) S s ∧ RelC (27 + 61 * di) s (pmN k R) ∧ ∀ j, j < k → sails (pmN j R) b = true) 201 (fun m s hs => ?_) (fun m s k hk hs hL => ?_) 201 0 S (Nat.zero_add _) ⟨FrC.refl _ _, rl, fun j hj => absurd hj (Nat.not_lt_zero _)⟩⟩
  · obtain ⟨s1, s2, s3⟩ := hs
    rw [f_X12_minutesToTarget_L18]
    refine cT' (by decide) ?_
    have := hK s s1
    rw [mtt_no s3] at this
    exact this
  · obtain ⟨s1, s2, s3⟩ := hs
    rw [f_X12_minutesToTarget_L18]
    have ed : vp_in (s 0 6) 11 ∧ 27 + 61 * (s 0 6).toNatClampNeg = 27 + 61 * di := by
      rw [s1 0 (by omega), e0]
      exact g1.di11
    refine cN' (nI_nlt (a := 200) (b := k) (by omega) (by decide)) ⟨ed.1, ?_⟩
    rw [ed.2]
    obtain ⟨w2, -, n2, -⟩ := pmN_w w k
    have en : nb (pmN k R) = nb R := by unfold nb; rw [n2]
    refine c_sailing w2 s2 (by rw [en]; exact hb) ?_
    refine bT (fun hs => ⟨ed.1, ?_⟩) (fun hs => ?_)
    · rw [ed.2]
      refine c_pass w2 s2 (m := 1) rfl (by decide) (fun S2 f2 r2' => ?_)
      rw [nI_1]
      rw [pmN_1] at r2'
      refine hL S2 ⟨s1.trans f2, r2', fun j hj => ?_⟩
      by_cases ej : j = k
      · rw [ej]; exact hs
      · exact s3 j (by omega)
    · have := hK s s1
      rw [mtt_at hk s3 hs] at this
      exact this
theorem m_until (hr : Rw S 700) (w : WF T R) (hb : b < nb R) (hK : ∀ k, KI (mtt R b) (uR S 700 (pmN k R))) : f_X13_untilThere (nI b) (uR S 700 R) KI := by
  unfold f_X13_untilThere
  have n5 := w.nb5
  refine ⟨_, inv_loop (fun m (s : TM) k => f_X13_untilThere_L2 (nI b) KI m (nI b) (nI k) s) (fun k s => s = uR S 700 (pmN k R) ∧ ∀ j, j < k → sails (pmN j R) b = true) 201 (fun m s hs => ?_) (fun m s k hk hs hL => ?_) 201 0 (uR S 700 R) (Nat.zero_add _) ⟨rfl, fun j hj => absurd hj (Nat.not_lt_zero _)⟩⟩
  · obtain ⟨s1, s3⟩ := hs
    rw [f_X13_untilThere_L2]
    refine cT' (by decide) ?_
    have := hK 201
    rw [mtt_no s3] at this
    rw [s1]
    exact this
  · obtain ⟨s1, s3⟩ := hs
    subst s1
    rw [f_X13_untilThere_L2]
    refine cN' (nI_nlt (a := 200) (b := k) (by omega) (by decide)) ?_
    obtain ⟨w2, -, n2, -⟩ := pmN_w w k
    refine m_sails hr rfl (by omega) ?_
    refine bT (fun hs => ?_) (fun hs => ?_)
    · refine m_min hr w2 ?_
      rw [nI_1]
      refine hL _ ⟨rfl, fun j hj => ?_⟩
      by_cases ej : j = k
      · rw [ej]; exact hs
      · exact s3 j (by omega)
    · have := hK k
      rw [mtt_at hk s3 hs] at this
      exact this
theorem q_minutesToTarget (g : Inv T M) (hK : ∀ M', Inv T M' → K M') : f_L_minutesToTarget p M (fun r2 M1 => f_X13_minutesToTarget p M1 (fun r4 M3 => LawE K r2 r4 M3)) := by
  unfold f_L_minutesToTarget f_X12_minutesToTarget
  obtain ⟨ci, di, nx, h, g1, g2, g3, g4, g5⟩ := id g
  have hci := g1.1
  have w := g1.2.2.2.2.2.1
  have n5 := w.nb5
  refine c_reqBarge g1 (fun hp => ⟨g1.di11.1, g1.in11.1, ?_⟩) (fun hp => ⟨rfl, ?_⟩)
  · obtain ⟨b, hb, rfl⟩ := inR_of (by omega) hp
    refine c_draft g1 (fun M1 f1 r1 => ?_)
    refine c_until g1 w hb (f1 0 (by omega)) r1 (fun M2 f2 => ?_)
    intro M3 e3
    have f3 : ∀ i, (i < 27 + 61 * di ∨ 27 + 61 * di + 61 ≤ i) → i ≠ 710 → M3 i = M i := fun i i1 i2 => by rw [e3, u2_n i2, f2 i i1, f1 i i1]
    have e39 : M3 699 = M 699 := f3 699 (by omega) (by decide)
    have hr3 : Rw M3 700 := rwS g1.rw (fun j _ _ => by rw [e39])
    have hR3 : M3 700 = M 700 := f3 700 (by omega) (by decide)
    unfold f_X13_minutesToTarget
    refine m_barg hr3 hR3 w.ix ?_
    refine m_lacks rfl ?_
    rw [hp]
    refine cT' rfl ?_
    have hr4 : Rw (u2 M3 699 8 (bi (!true))) 700 := Rw.u _ _ (by decide) hr3
    have hR4 : (u2 M3 699 8 (bi (!true))) 700 = M 700 := by rw [u2_n (by decide)]; exact hR3
    refine m_foresee hr4 hR4 w (m := 0) rfl (by decide) (fun S s1 s2 => ?_)
    have hrS : Rw S 700 := rwS hr4 (fun j _ _ => by rw [s1 699 (by decide)])
    refine m_until (R := M 700) hrS w hb (fun k => ?_)
    refine m_laid (hrS.to _) (fun S' t1 t2 => ?_)
    rw [uR_n (by decide)] at t2
    have k9 : S' 699 = (u2 M3 699 8 (bi (!true))) 699 := by rw [t1 699 (by decide), uR_n (by decide), s1 699 (by decide)]
    refine lawE (by rw [k9, u2_s]; rfl) (fun _ => by rw [t1 710 (by decide), uR_n (by decide), s1 710 (by decide), u2_n (by decide), e3, u2_s]) (hK S' ?_)
    refine Inv.lay g1 g2 g3 g4 g5 (fun i i1 i2 i3 i4 i5 => by rw [t1 i i3, uR_n i3, s1 i i4, u2_n i2, f3 i i1 i5]) (fun j j1 j2 => by rw [k9, u2_f j1, e39]) (s2.trans t2)
  · unfold f_X13_minutesToTarget
    refine m_barg g1.rw rfl w.ix ?_
    refine m_lacks rfl ?_
    rw [hp]
    exact cN' (by decide) (finF g hK)
end FORESEE
