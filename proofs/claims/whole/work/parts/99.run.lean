/-! runScript -/
def BB : Nat := 231525
section RUN
variable {c' : Bool} {i : Nat} {M M1 M' S S' : TM} {T : Nat → Nat} {U V : Nat} {K : TM → Prop} {KI : Int32 → TM → Prop} {KV : TM → Prop} {X : String → TM → Prop} {p q u v : Int32} {R R' : Nat → Int32} {a b c d e f j k m x' h nx ci di r o n : Nat}
theorem BB_eq : 21 * StC 2 = BB := rfl
/-- the class remembers, whatever the text is -/
theorem c_memK (g1 : Cur U M ci di) (g2 : His U M nx h) (hK : ∀ M', (∀ i, i ≠ 25 → (i < 27 ∨ 515 ≤ i) → M' i = M i) → Cur U M' ci di → HisK U M' nx h → KV M') : f_X5_remember (27 + 61 * ci) M KV := by
  obtain ⟨v1, v2, v3, v4⟩ := g1.in11
  obtain ⟨a1, a2, a3, a4, a5, a6⟩ := id g2
  obtain ⟨q1, q2, q3, q4, q5, q6, q7⟩ := id g1
  have hm : nx % 8 < 8 := Nat.mod_lt _ (by decide)
  refine c_remember v4 a1 a2 a3 a4 q6 q5 (fun M' s es m1 m2 m3 m4 => ?_)
  subst es
  have hi : ∀ i, 515 ≤ i → M' i = M i := fun i h1 => m1 i (by omega) (by omega)
  have e9 : M' 699 = M 699 := hi 699 (by decide)
  refine hK M' (fun i i1 i2 => m1 i i1 (by omega)) (g1.fr (m1 0 (by decide) (by omega)) (fun i h1 h2 => hi i (by omega)) (by rw [e9]) (hi 700 (by decide))) ⟨m2, m3, a3, a4, by rw [e9]; exact a5, by rw [hi 700 (by decide)]; exact m4, by rw [hi 700 (by decide)]; exact q6, by rw [hi 700 (by decide)]; exact q7, fun k hk hn => ?_⟩
  obtain ⟨b1, b2, b3⟩ := a6 k hk
  have sl := slot_lt nx h k
  have e : hrow M' k = hrow M k := by unfold hrow; rw [hi 705 (by decide)]
  rw [e]
  refine ⟨b1.frame (fun i h1 h2 => m1 i (by omega) ?_) b2.nb5 b2.no30, b2, b3⟩
  unfold slot at hn h1 h2
  omega
/-- both histories, once the model has recorded -/
theorem hisK_done (g : HisK U M nx h) (hT : U ≤ V) (hi : ∀ i, 27 ≤ i → i < 515 → M' i = M i) (h25 : M' 25 = M 25) (m3 : M' 699 7 = nI (min (h + 1) 8)) (m4 : ∀ k, k + 1 < min (h + 1) 8 → REq (hrow M (if h = 8 then k + 1 else k)) (hrow M' k)) (m5 : REq (M 700) (hrow M' (min (h + 1) 8 - 1))) : His V M' (nx % 8 + 1) (min (h + 1) 8) := by
  obtain ⟨a1, a2, a3, a4, a5, a6, a7, a8, a9⟩ := g
  have hm : nx % 8 < 8 := Nat.mod_lt _ (by decide)
  have hrl : ∀ k (R : Nat → Int32) (W : Nat), W = slot (nx % 8 + 1) (min (h + 1) 8) k → RelC W M R → WF U R → Nb R → REq R (hrow M' k) → RelC (slot (nx % 8 + 1) (min (h + 1) 8) k) M' (hrow M' k) ∧ WF V (hrow M' k) ∧ Nb (hrow M' k) := fun k R W eW r1 r2 r3 r4 => by
    have sl := slot_lt (nx % 8 + 1) (min (h + 1) 8) k
    subst eW
    exact ⟨((r1.frame (fun i h1 h2 => hi i (by omega) (by omega)) r2.nb5 r2.no30)).row r2 r4, WF.mono hT (r2.row r4), r3.row r2 r4⟩
  refine ⟨by rw [h25]; exact a1, by rw [h25]; exact a2, by omega, by omega, m3, fun k hk => ?_⟩
  by_cases hl : k + 1 < min (h + 1) 8
  · have r4 := m4 k hl
    by_cases h8 : h = 8
    · rw [if_pos h8] at r4
      obtain ⟨b1, b2, b3⟩ := a9 (k + 1) (by omega) (by unfold slot; omega)
      exact hrl k _ _ (by unfold slot; omega) b1 b2 b3 r4
    · rw [if_neg h8] at r4
      obtain ⟨b1, b2, b3⟩ := a9 k (by omega) (by unfold slot; omega)
      exact hrl k _ _ (by unfold slot; omega) b1 b2 b3 r4
  · have ek : k = min (h + 1) 8 - 1 := by omega
    rw [← ek] at m5
    exact hrl k _ _ (by unfold slot; omega) a6 a7 a8 m5
/-- the model's side -/
theorem m_run {y : PY} {f l : Nat} {KL : Int32 → TM → Prop} (C0 : CmT) (hn : l ≤ 500) (ey : y = pScr T l (s0 T l) C0) (h15 : S 699 15 = nI f) (hf : f ≤ 500) (hl : l ≤ f) (ep : p = nI l) (h7 : ∀ i, i < l → S 707 i = nI (T i) ∧ T i < 256) (h6 : S 699 6 = 0) (hh : S 699 7 = nI h) (h8 : h ≤ 8) (w : WF U (S 700)) (nbR : Nb (S 700)) (hT : U + BB + 1 < 2 ^ 31) (hF : ∀ r4 M', (∀ i, i ≠ 699 → i ≠ 700 → i ≠ 703 → i ≠ 705 → i ≠ 708 → M' i = S i) → (∀ j, j < 7 ∨ j = 11 ∨ j = 13 → M' 699 j = S 699 j) → M' 699 8 = 0 → M' 699 15 = 0 → M' 699 9 = nI (pe y.1) → (pe y.1 = 0 → M' 699 22 = -1 ∧ M' 700 = (dL y.2.2 (dR y.2.2 2) 21 0 y.2.1 (S 700, 0)).2.1 ∧ M' 699 7 = nI (min (h + 1) 8) ∧ (∀ k, k + 1 < min (h + 1) 8 → REq (hrow S (if h = 8 then k + 1 else k)) (hrow M' k)) ∧ REq (S 700) (hrow M' (min (h + 1) 8 - 1)) ∧ r4 = nI (dL y.2.2 (dR y.2.2 2) 21 0 y.2.1 (S 700, 0)).2.2) → (pe y.1 ≠ 0 → M' 699 22 = nI (pa y.1) ∧ M' 700 = S 700 ∧ M' 705 = S 705 ∧ M' 699 7 = S 699 7 ∧ r4 = -1) → KL r4 M') : f_X13_runScript p S KL := by
  have w0 := s0_w T hn
  have adv := scr_adv w0 C0
  rw [← ey] at adv
  obtain ⟨wy, ay⟩ := adv
  unfold f_X13_runScript
  refine m_isLen (f := f) h15 hf ?_
  refine m_lacks rfl ?_
  rw [ep, inR_nI (by omega) (by omega)]
  refine cT' rfl ?_
  intro S0 z0
  have f0 : ∀ i, i ≠ 699 → S0 i = S i := fun i hi => by rw [z0, u2_n hi, u2_n hi]
  have j0 : ∀ j, j ≠ 8 → j ≠ 26 → S0 699 j = S 699 j := fun j j1 j2 => by rw [z0, u2_f j2, u2_f j1]
  have j08 : S0 699 8 = 0 := by rw [z0, u2_f (by decide), u2_s]; rfl
  have j026 : S0 699 26 = 0 := by rw [z0, u2_s]
  refine m_start (T := T) (n := l) (fun i hi => by rw [f0 707 (by decide)]; exact h7 i hi) hn rfl (fun S1 s1 s2 s3 => ?_)
  refine m_script s3 w0 (by rw [s2 26 (by omega)]; exact j026) C0 (fun S2 r2' => ?_)
  rw [← ey] at r2'
  obtain ⟨f2, p2', q2⟩ := r2'
  unfold f_X13_runScript_L46
  have c2 : ∀ i, i ≠ 699 → i ≠ 708 → S2 i = S i := fun i i1 i2 => by rw [f2.1 i i1 i2, s1 i i1, f0 i i1]
  have d2 : ∀ j, j < 16 → j ≠ 8 → S2 699 j = S 699 j := fun j j1 j2 => by rw [f2.2 j (by omega) (by omega), s2 j (by omega), j0 j j2 (by omega)]
  have d28 : S2 699 8 = 0 := by rw [f2.2 8 (by omega) (by omega), s2 8 (by omega)]; exact j08
  refine m_faulty p2' wy (fun hz S3 x1 x2 x3 x4 x5 => ?_) (fun hz S3 x1 x2 x3 x4 x5 => ?_)
  · refine cT' rfl ?_
    obtain ⟨t1, -, t3⟩ := q2 hz
    obtain ⟨-, -, -, b4, -, b6⟩ := ay hz
    refine m_keep (fun S4 y1 y2 => ?_)
    have c3 : ∀ i, i ≠ 699 → i ≠ 708 → S3 i = S i := fun i i1 i2 => by rw [x1 i i1, c2 i i1 i2]
    have e3700 : S3 700 = S 700 := c3 700 (by decide) (by decide)
    have d3 : ∀ j, j < 16 → j ≠ 8 → j ≠ 9 → j ≠ 15 → S3 699 j = S 699 j := fun j j1 j2 j3 j4 => by rw [x2 j j3 j4 (by omega), d2 j j1 j2]
    refine m_record (h := h) (by rw [y1 699 (by decide), d3 7 (by decide) (by decide) (by decide) (by decide)]; exact hh) h8 (fun S5 m1 m2 m3 m4 m5 => ?_)
    intro S6 z6
    have c6 : ∀ i, i ≠ 699 → i ≠ 703 → i ≠ 705 → i ≠ 708 → S6 i = S i := fun i i1 i2 i3 i4 => by rw [z6, u2_n i1, m1 i i1 i3, y1 i i2, c3 i i1 i4]
    have d6 : ∀ j, j ≠ 7 → j ≠ 27 → S6 699 j = S3 699 j := fun j j1 j2 => by rw [z6, u2_f j2, m2 j j1, y1 699 (by decide)]
    have c6708 : S6 708 = S2 708 := by rw [z6, u2_n (by decide), m1 708 (by decide) (by decide), y1 708 (by decide), x1 708 (by decide)]
    have d626 : S6 699 26 = nI y.2.1 := by rw [d6 26 (by decide) (by decide), x2 26 (by decide) (by decide) (by decide)]; exact t1
    have e6700 : S6 700 = S 700 := c6 700 (by decide) (by decide) (by decide) (by decide)
    have d66 : S6 699 6 = 0 := by rw [d6 6 (by decide) (by decide), d3 6 (by decide) (by decide) (by decide) (by decide)]; exact h6
    rw [d626]
    refine m_doAll (R := S 700) (Or.inl ⟨d66, rfl⟩) e6700 b6 b4 w nbR (by rw [z6, u2_s]) (t3.congr (fun i _ _ => by rw [c6708]) (fun _ _ _ => rfl)) hT (fun S7 f7 r7 => ?_)
    have c7 : ∀ i, i ≠ 699 → i ≠ 700 → i ≠ 703 → i ≠ 705 → i ≠ 708 → S7 i = S i := fun i i1 i2 i3 i4 i5 => by rw [f7.1 i i1 i2, c6 i i1 i3 i4 i5]
    have d7 : ∀ j, j ≠ 7 → j ≠ 10 → j ≠ 27 → S7 699 j = S3 699 j := fun j j1 j2 j3 => by rw [f7.2 j j2 j3, d6 j j1 j3]
    have e7705 : S7 705 = S5 705 := by rw [f7.1 705 (by decide) (by decide), z6, u2_n (by decide)]
    have eh5 : ∀ k, hrow S7 k = hrow S5 k := fun k => by unfold hrow; rw [e7705]
    have eh4 : ∀ k, hrow S4 k = hrow S k := fun k => by unfold hrow; rw [y1 705 (by decide), c3 705 (by decide) (by decide)]
    refine hF _ S7 c7 (fun j hj => ?_) ?_ ?_ ?_ (fun _ => ⟨?_, r7, ?_, fun k hk => ?_, ?_, rfl⟩) (fun hne => absurd hz hne)
    · by_cases j7 : j = 7
      · omega
      · rw [d7 j (by omega) (by omega) (by omega), d3 j (by omega) (by omega) (by omega) (by omega)]
    · rw [d7 8 (by decide) (by decide) (by decide), x2 8 (by decide) (by decide) (by decide)]
      exact d28
    · rw [d7 15 (by decide) (by decide) (by decide)]
      exact x3
    · rw [d7 9 (by decide) (by decide) (by decide)]
      exact x4
    · rw [d7 22 (by decide) (by decide) (by decide)]
      exact x5
    · rw [f7.2 7 (by decide) (by decide), z6, u2_f (by decide)]
      exact m3
    · have := m4 k hk
      rw [eh4] at this
      rw [eh5]
      exact this
    · rw [eh5, ← e3700]
      exact y2.trans m5
  · refine cN' (by decide) ?_
    exact hF _ S3 (fun i i1 _ _ _ i5 => by rw [x1 i i1, c2 i i1 i5]) (fun j hj => by rw [x2 j (by omega) (by omega) (by omega), d2 j (by omega) (by omega)]) (by rw [x2 8 (by decide) (by decide) (by decide)]; exact d28) x3 x4 (fun he => absurd he hz) (fun _ => ⟨x5, by rw [x1 700 (by decide), c2 700 (by decide) (by decide)], by rw [x1 705 (by decide), c2 705 (by decide) (by decide)], by rw [x2 7 (by decide) (by decide) (by decide), d2 7 (by decide) (by decide)], rfl⟩)
theorem q_runScript (g : Inv U M) (hT : U + BB + 1 < 2 ^ 31) (hK : ∀ M', Inv (U + BB) M' → K M') : f_L_runScript p M (fun r2 M1 => f_X13_runScript p M1 (fun r4 M3 => LawE K r2 r4 M3)) := by
  unfold f_L_runScript f_X12_runScript
  obtain ⟨ci, di, nx, h, g1, g2, g3, g4, g5⟩ := id g
  obtain ⟨q1, q2, q3, q4, q5, q6, q7⟩ := id g1
  obtain ⟨f, t1, t2, t3, t4⟩ := txt_T g4
  have n5 := q6.nb5
  have n30 := q6.no30
  have hU : U ≤ U + BB := Nat.le_add_right _ _
  refine c_reqText t2 t1 (fun l hl ep => ?_) (fun hp => ⟨rfl, ?_⟩)
  · have hl5 : l ≤ 500 := by omega
    refine c_begin (T := tx M) (n := l) (fun i hi => (t4 i (by omega)).1) hl5 ep (fun M1 a1 a2 a3 => ?_)
    have w0 := s0_w (tx M) hl5
    refine c_script a3 w0 (fun _ _ => 0) (fun M2 r2' => ?_)
    have adv := scr_adv w0 (fun _ _ => 0)
    obtain ⟨y, ey⟩ : ∃ y, y = pScr (tx M) l (s0 (tx M) l) (fun _ _ => 0) := ⟨_, rfl⟩
    rw [← ey] at adv r2'
    obtain ⟨wy, ay⟩ := adv
    obtain ⟨f2, p2', k2⟩ := r2'
    unfold f_X10_empty
    intro M3 e3
    unfold f_X10_failed
    have k16 : M3 1 6 = nI (pe y.1) := by rw [e3, u2_f (by decide)]; exact p2'.2.1
    have k3 : ∀ i, i ≠ 1 → i ≠ 3 → (i < 5 ∨ 25 ≤ i) → M3 i = M i := fun i i1 i2 i3 => by rw [e3, u2_n i1, f2.1 i i1 i2 i3, a1 i i1]
    have k11 : M3 1 1 = 0 := by rw [e3, u2_s]
    have k17 : M3 1 7 = M2 1 7 := by rw [e3, u2_f (by decide)]
    have c3 : Cur U M3 ci di := g1.fr (k3 0 (by decide) (by decide) (by decide)) (fun i i1 i2 => k3 i (by omega) (by omega) (by omega)) (by rw [k3 699 (by decide) (by decide) (by decide)]) (k3 700 (by decide) (by decide) (by decide))
    have h3 : His U M3 nx h := g2.fr (k3 25 (by decide) (by decide) (by decide)) (fun i i1 i2 => k3 i (by omega) (by omega) (by omega)) (by rw [k3 699 (by decide) (by decide) (by decide)]) (k3 705 (by decide) (by decide) (by decide))
    have wy10 := wy.2.1
    rw [k16]
    refine ⟨fun hz => ?_, fun hz => ?_⟩
    · have hz0 : pe y.1 = 0 := nI_inj (b := 0) (by omega) (by decide) hz
      refine cT' rfl ⟨c3.in11.1, ?_⟩
      rw [c3.in11.2.1]
      obtain ⟨s1, -, s3⟩ := k2 hz0
      obtain ⟨-, -, -, b4, -, b6⟩ := ay hz0
      refine c_memK c3 h3 (fun M4 d1 d2 d3 => ?_)
      refine ⟨d2.in11.1, ?_⟩
      rw [d2.in11.2.1]
      have e4700 : M4 700 = M 700 := by rw [d1 700 (by decide) (by decide), k3 700 (by decide) (by decide) (by decide)]
      have rl4 := d2.2.2.2.2.1
      rw [e4700] at rl4
      have m4 : ∀ i, 3 ≤ i → i < 25 → M4 i = M2 i := fun i i1 i2 => by rw [d1 i (by omega) (by omega), e3, u2_n (by omega)]
      refine c_doAll (T0 := U) (R := M 700) (b := y.2.1) (C := y.2.2) (by omega) b6 b4 (by rw [m4 3 (by decide) (by decide)]; exact s1) rl4 q6 q7 (s3.congr (fun k _ hk => m4 (5 + k) (by omega) (by omega)) (fun _ _ _ => rfl)) hT (fun M5 f5 r5 => ?_)
      intro M6 e6
      have pz := pure_L (T0 := U) 2 21 0 y.2.1 b6 b4 (M 700, 0) ⟨q6, q7⟩ hT
      obtain ⟨z, ez⟩ : ∃ z, z = (dL y.2.2 (dR y.2.2 2) 21 0 y.2.1 (M 700, 0)).2 := ⟨_, rfl⟩
      have c6 : ∀ i, i ≠ 3 → i ≠ 710 → (i < 27 + 61 * ci ∨ 27 + 61 * ci + 61 ≤ i) → M6 i = M4 i := fun i i1 i2 i3 => by rw [e6, u2_n i2, f5.1 i i3 i1]
      have c6M : ∀ i, i ≠ 1 → i ≠ 3 → i ≠ 25 → i ≠ 710 → (i < 5 ∨ 515 ≤ i) → (i < 27 + 61 * ci ∨ 27 + 61 * ci + 61 ≤ i) → M6 i = M i := fun i i1 i2 i3 i4 i5 i6 => by rw [c6 i i2 i4 i6, d1 i i3 (by omega), k3 i i1 i2 (by omega)]
      have c6' : ∀ i, i = 0 ∨ i = 2 ∨ 698 ≤ i → i ≠ 710 → M6 i = M i := fun i i1 i2 => c6M i (by omega) (by omega) (by omega) i2 (by omega) (by omega)
      rw [← ez] at r5 pz
      have e6700 : M6 700 = M 700 := c6' 700 (by omega) (by decide)
      refine m_run (T := tx M) (y := y) (f := f) (l := l) (h := h) (U := U) (fun _ _ => 0) hl5 ey (by rw [c6' 699 (by omega) (by decide)]; exact t3) t1 hl ep (fun i hi => by rw [c6' 707 (by omega) (by decide)]; exact ⟨(t4 i (by omega)).2, (t4 i (by omega)).1.2.2⟩) (by rw [c6' 699 (by omega) (by decide)]; exact q4) (by rw [c6' 699 (by omega) (by decide)]; exact g2.2.2.2.2.1) g2.2.2.2.1 (by rw [e6700]; exact q6) (by rw [e6700]; exact q7) hT (fun r4 M9 m1 m2 m8 m15 m9 m0 m01 => ?_)
      obtain ⟨n1, n2, n3, n4, n5', n6⟩ := m0 hz0
      rw [e6700] at n2 n5' n6
      rw [← ez] at n2 n6
      have k9 : ∀ i, i ≠ 699 → i ≠ 700 → i ≠ 703 → i ≠ 705 → i ≠ 708 → M9 i = M6 i := m1
      have wz : WF (U + BB) z.1 := WF.mono (by have := pz.2; have e0 : (M 700, 0).2 = 0 := rfl; rw [BB_eq] at this; have : z.2 ≤ 0 + BB := this; omega) pz.1.1
      refine lawE m8 (fun _ => by rw [m1 710 (by decide) (by decide) (by decide) (by decide) (by decide), e6, u2_s, n6, ez]) (hK M9 ⟨ci, di, nx % 8 + 1, min (h + 1) 8, ?_, ?_, ?_, ?_, ?_⟩)
      · unfold Cur
        rw [k9 0 (by decide) (by decide) (by decide) (by decide) (by decide), c6' 0 (by omega) (by decide), n2, m2 6 (by omega), c6' 699 (by omega) (by decide)]
        exact ⟨q1, q2, q3, q4, r5.frame (fun i i1 i2 => by rw [k9 i (by omega) (by omega) (by omega) (by omega) (by omega), e6, u2_n (by omega)]) wz.nb5 wz.no30, wz, pz.1.2⟩
      · have e6705 : M6 705 = M4 705 := c6 705 (by decide) (by decide) (by omega)
        have eh : ∀ k, hrow M6 k = hrow M4 k := fun k => by unfold hrow; rw [e6705]
        refine hisK_done d3 hU (fun i i1 i2 => by rw [k9 i (by omega) (by omega) (by omega) (by omega) (by omega), c6 i (by omega) (by omega) (by omega)]) (by rw [k9 25 (by decide) (by decide) (by decide) (by decide) (by decide), c6 25 (by decide) (by decide) (by omega)]) n3 (fun k hk => ?_) (by rw [e4700]; exact n5')
        have := n4 k hk
        rw [eh] at this
        exact this
      · exact (g3.fr (by rw [k9 0 (by decide) (by decide) (by decide) (by decide) (by decide), c6' 0 (by omega) (by decide)]) (fun i i1 i2 => by rw [k9 i (by omega) (by omega) (by omega) (by omega) (by omega)]; exact c6M i (by omega) (by omega) (by omega) (by omega) (by omega) (by omega)) (by rw [m2 11 (by omega), c6' 699 (by omega) (by decide)]) (by rw [k9 704 (by decide) (by decide) (by decide) (by decide) (by decide)]; exact c6' 704 (by omega) (by decide))).mono hU
      · have e1 : M9 1 = M3 1 := by rw [k9 1 (by decide) (by decide) (by decide) (by decide) (by decide), c6 1 (by decide) (by decide) (by omega), d1 1 (by decide) (by decide)]
        exact ⟨0, by omega, by rw [e1, k11]; rfl, m15, fun i hi => absurd hi (Nat.not_lt_zero _), by rw [e1, k16, m9], by rw [e1, k17, n1]; exact (p2'.2.2.2 hz0).1⟩
      · exact g5.fr (by rw [k9 0 (by decide) (by decide) (by decide) (by decide) (by decide), c6' 0 (by omega) (by decide)]) (by rw [k9 698 (by decide) (by decide) (by decide) (by decide) (by decide)]; exact c6' 698 (by omega) (by decide)) (by rw [m2 13 (by omega), c6' 699 (by omega) (by decide)]) (by rw [k9 706 (by decide) (by decide) (by decide) (by decide) (by decide)]; exact c6' 706 (by omega) (by decide))
    · have hz0 : pe y.1 ≠ 0 := fun he => hz (by rw [he]; rfl)
      refine cN' (by decide) ?_
      intro M6 e6
      have c6M : ∀ i, i ≠ 1 → i ≠ 3 → i ≠ 710 → (i < 5 ∨ 25 ≤ i) → M6 i = M i := fun i i1 i2 i3 i4 => by rw [e6, u2_n i3, k3 i i1 i2 i4]
      have e6700 : M6 700 = M 700 := c6M 700 (by decide) (by decide) (by decide) (by decide)
      have e6699 : M6 699 = M 699 := c6M 699 (by decide) (by decide) (by decide) (by decide)
      refine m_run (T := tx M) (y := y) (f := f) (l := l) (h := h) (U := U) (fun _ _ => 0) hl5 ey (by rw [e6699]; exact t3) t1 hl ep (fun i hi => by rw [c6M 707 (by decide) (by decide) (by decide) (by decide)]; exact ⟨(t4 i (by omega)).2, (t4 i (by omega)).1.2.2⟩) (by rw [e6699]; exact q4) (by rw [e6699]; exact g2.2.2.2.2.1) g2.2.2.2.1 (by rw [e6700]; exact q6) (by rw [e6700]; exact q7) hT (fun r4 M9 m1 m2 m8 m15 m9 m0 m01 => ?_)
      obtain ⟨n1, n2, n3, n4, n5'⟩ := m01 hz0
      have k9 : ∀ i, i ≠ 1 → i ≠ 3 → i ≠ 699 → i ≠ 700 → i ≠ 703 → i ≠ 705 → i ≠ 708 → i ≠ 710 → (i < 5 ∨ 25 ≤ i) → M9 i = M i := fun i i1 i2 i3 i4 i5 i6 i7 i8 i9 => by rw [m1 i i3 i4 i5 i6 i7, c6M i i1 i2 i8 i9]
      have e0 : M9 0 = M 0 := k9 0 (by decide) (by decide) (by decide) (by decide) (by decide) (by decide) (by decide) (by decide) (by decide)
      refine lawE m8 (fun _ => by rw [m1 710 (by decide) (by decide) (by decide) (by decide) (by decide), e6, u2_s]; exact n5'.symm) (hK M9 (Inv.mono hU ⟨ci, di, nx, h, ?_, ?_, ?_, ?_, ?_⟩))
      · exact g1.fr e0 (fun i i1 i2 => k9 i (by omega) (by omega) (by omega) (by omega) (by omega) (by omega) (by omega) (by omega) (by omega)) (by rw [m2 6 (by omega), e6699]) (by rw [n2]; exact e6700)
      · exact g2.fr (k9 25 (by decide) (by decide) (by decide) (by decide) (by decide) (by decide) (by decide) (by decide) (by decide)) (fun i i1 i2 => k9 i (by omega) (by omega) (by omega) (by omega) (by omega) (by omega) (by omega) (by omega) (by omega)) (by rw [n4, e6699]) (by rw [n3]; exact c6M 705 (by decide) (by decide) (by decide) (by decide))
      · exact g3.fr (by rw [e0]) (fun i i1 i2 => k9 i (by omega) (by omega) (by omega) (by omega) (by omega) (by omega) (by omega) (by omega) (by omega)) (by rw [m2 11 (by omega), e6699]) (k9 704 (by decide) (by decide) (by decide) (by decide) (by decide) (by decide) (by decide) (by decide) (by decide))
      · have e1 : M9 1 = M3 1 := by rw [m1 1 (by decide) (by decide) (by decide) (by decide) (by decide), e6, u2_n (by decide)]
        exact ⟨0, by omega, by rw [e1, k11]; rfl, m15, fun i hi => absurd hi (Nat.not_lt_zero _), by rw [e1, k16, m9], by rw [e1, k17, n1]; exact p2'.2.2.1 hz0⟩
      · exact g5.fr (by rw [e0]) (k9 698 (by decide) (by decide) (by decide) (by decide) (by decide) (by decide) (by decide) (by decide) (by decide)) (by rw [m2 13 (by omega), e6699]) (k9 706 (by decide) (by decide) (by decide) (by decide) (by decide) (by decide) (by decide) (by decide) (by decide))
  · unfold f_X13_runScript
    refine m_isLen t3 t1 ?_
    refine m_lacks rfl ?_
    rw [hp]
    exact cN' (by decide) (finF g (fun M' hM => hK M' (hM.mono hU)))
end RUN
