/-! loadCanal -/
def s0 (T : Nat → Nat) (n : Nat) : PS := (0, 0, scB T n 0, scE T n 0, scK T n 0)
def tx (M : TM) (i : Nat) : Nat := (M 707 i).toNatClampNeg
def NLb (R : Nat → Int32) : Prop := ∀ b, b < nb R → bg R b 6 = 0
section LOAD
variable {c' : Bool} {i : Nat} {M M1 M' S S' : TM} {T : Nat → Nat} {U t V : Nat} {K : TM → Prop} {KI KL : Int32 → TM → Prop} {KV : TM → Prop} {X : String → TM → Prop} {p q u v z : Int32} {R R' : Nat → Int32} {x : PR} {s : PS} {a b c d e f j k m x' h nx ci di r o n what : Nat}
theorem s0_w (T : Nat → Nat) (hn : n ≤ 500) : Ws T n (s0 T n) := ⟨hn, by decide, ⟨0, Nat.zero_le _, rfl, rfl, rfl⟩⟩
/-- both begin with the text -/
theorem c_begin (h2 : ∀ i, i < n → (T i < 128 → M 2 i = nI (T i)) ∧ (128 ≤ T i → M 2 i < 0) ∧ T i < 256) (hn : n ≤ 500) (e1 : p = nI n) (hK : ∀ M', (∀ i, i ≠ 1 → M' i = M i) → (∀ j, j < 2 → M' 1 j = M 1 j) → PC M' T n (s0 T n) → KV M') : f_X10_begin p M KV := by
  subst e1
  unfold f_X10_begin
  rw [if_neg (nI_nlt (a := n) (b := 500) hn (by decide))]
  intro M1 e1 M2 e2 M3 e3 M4 e4
  have f4 : ∀ i, i ≠ 1 → M4 i = M i := fun i hi => by rw [e4, u2_n hi, e3, u2_n hi, e2, u2_n hi, e1, u2_n hi]
  have j4 : ∀ j, j < 2 → M4 1 j = M 1 j := fun j hj => by rw [e4, u2_f (by omega), e3, u2_f (by omega), e2, u2_f (by omega), e1, u2_f (by omega)]
  have h12 : M4 1 2 = nI n := by rw [e4, u2_f (by decide), e3, u2_f (by decide), e2, u2_f (by decide), e1, u2_s]
  have h15 : M4 1 5 = nI 0 := by rw [e4, u2_f (by decide), e3, u2_f (by decide), e2, u2_s]; rfl
  have h16 : M4 1 6 = 0 := by rw [e4, u2_f (by decide), e3, u2_s]
  have h17 : M4 1 7 = -1 := by rw [e4, u2_s]
  have hc : CTx M4 T n := ⟨h12, hn, fun i hi => by rw [f4 2 (by decide)]; exact h2 i hi⟩
  refine c_advance hc h15 (Nat.zero_le _) (fun M5 g => ?_)
  obtain ⟨g1, g2, g3, g4, g5⟩ := g
  refine hK M5 (fun i hi => by rw [g1 i hi, f4 i hi]) (fun j hj => by rw [g2 j (by omega) (by omega) (by omega), j4 j hj]) ⟨hc.of (g2 2 (by decide) (by decide) (by decide)) (g1 2 (by decide)), by rw [g2 6 (by decide) (by decide) (by decide)]; exact h16, fun hne => absurd rfl hne, fun _ => ⟨by rw [g2 7 (by decide) (by decide) (by decide)]; exact h17, g4, g3, ?_⟩⟩
  rw [g5, scC_k]
  rfl
theorem m_start (h7 : ∀ i, i < n → M 707 i = nI (T i) ∧ T i < 256) (hn : n ≤ 500) (e1 : p = nI n) (hK : ∀ M', (∀ i, i ≠ 699 → M' i = M i) → (∀ j, j < 16 ∨ 24 ≤ j ∨ j = 22 → M' 699 j = M 699 j) → PM M' T n (s0 T n) → KV M') : f_X13_startText p M KV := by
  subst e1
  unfold f_X13_startText
  intro M1 e1 M2 e2 M3 e3 M4 e4
  have f4 : ∀ i, i ≠ 699 → M4 i = M i := fun i hi => by rw [e4, u2_n hi, e3, u2_n hi, e2, u2_n hi, e1, u2_n hi]
  have j4 : ∀ j, j < 16 ∨ 24 ≤ j ∨ j = 22 → M4 699 j = M 699 j := fun j hj => by rw [e4, u2_f (by omega), e3, u2_f (by omega), e2, u2_f (by omega), e1, u2_f (by omega)]
  have h16 : M4 699 16 = nI n := by rw [e4, u2_f (by decide), e3, u2_f (by decide), e2, u2_f (by decide), e1, u2_s]
  have h17 : M4 699 17 = nI 0 := by rw [e4, u2_f (by decide), e3, u2_f (by decide), e2, u2_s]; rfl
  have h20 : M4 699 20 = 0 := by rw [e4, u2_f (by decide), e3, u2_s]
  have hm : MT M4 T n := ⟨h16, hn, fun i hi => by rw [f4 707 (by decide)]; exact h7 i hi⟩
  refine m_scan hm h17 (Nat.zero_le _) (fun M5 g => ?_)
  obtain ⟨g1, g2, g3, g4, g5⟩ := g
  exact hK M5 (fun i hi => by rw [g1 i hi, f4 i hi]) (fun j hj => by rw [g2 j (by omega) (by omega) (by omega), j4 j hj]) ⟨hm.of (g2 16 (by decide) (by decide) (by decide)) (g1 707 (by decide)), by rw [g2 20 (by decide) (by decide) (by decide)]; exact h20, g3, g4, g5, fun hne => absurd rfl hne⟩
/-- the text of both -/
theorem txt_T (g : Txt M) : ∃ f, f ≤ 500 ∧ M 1 1 = nI f ∧ M 699 15 = nI f ∧ ∀ i, i < f → ((tx M i < 128 → M 2 i = nI (tx M i)) ∧ (128 ≤ tx M i → M 2 i < 0) ∧ tx M i < 256) ∧ M 707 i = nI (tx M i) := by
  obtain ⟨f, t1, t2, t3, t4, -⟩ := g
  refine ⟨f, t1, t2, t3, fun i hi => ?_⟩
  obtain ⟨v, v1, v2, v3, v4⟩ := t4 i hi
  have e : tx M i = v := by unfold tx; rw [v2, nI_clamp (by omega)]
  rw [e]
  exact ⟨⟨v3, v4, v1⟩, v2⟩
theorem c_reqText (h1 : M 1 1 = nI f) (hf : f ≤ 500) (hK : ∀ l, l ≤ f → p = nI l → KV M) (h0 : inR p (f + 1) = false → X "java/lang/IllegalArgumentException" M) : f_X12_requireText p M KV X := by
  unfold f_X12_requireText
  rw [h1]
  refine ⟨fun c1 => h0 (decide_eq_false (fun c2 => absurd c1 (Int32.not_lt.2 c2.1))), fun c1 => ⟨fun c2 => ?_, fun c2 => h0 (decide_eq_false (fun c3 => c2 ?_))⟩⟩
  · obtain ⟨l, h3, h4⟩ := rng_of (lo := 0) (by decide) (Int32.not_lt.1 c1) c2 (by omega)
    exact hK l (by omega) h4
  · obtain ⟨l, h3, h4⟩ := inR_of (p := p) (n := f + 1) (by omega) (decide_eq_true c3)
    rw [h4]
    exact nI_le (by omega) (by omega)
theorem m_isLen (h1 : M 699 15 = nI f) (hf : f ≤ 500) (hK : KI (bi (inR p (f + 1))) M) : f_X13_isLength p M KI := by
  unfold f_X13_isLength
  rw [h1]
  refine m_inRange ?_
  refine K_of (K := KI) hK ?_
  congr 1
  refine decide_eq_decide.2 ⟨fun c => ⟨c.1, ?_⟩, fun c => ⟨c.1, Int32.lt_of_le_of_lt c.2 (nI_lt (by omega) (by omega))⟩⟩
  obtain ⟨l, h3, h4⟩ := inR_of (p := p) (n := f + 1) (by omega) (decide_eq_true c)
  rw [h4]
  exact nI_le (by omega) (by omega)
/-- the model ends its reading -/
theorem m_faulty (h : PM M T n s) (w : Ws T n s) (h0 : pe s = 0 → ∀ M', (∀ i, i ≠ 699 → M' i = M i) → (∀ j, j ≠ 9 → j ≠ 15 → j ≠ 22 → M' 699 j = M 699 j) → M' 699 15 = 0 → M' 699 9 = nI (pe s) → M' 699 22 = -1 → KI 0 M') (h1 : pe s ≠ 0 → ∀ M', (∀ i, i ≠ 699 → M' i = M i) → (∀ j, j ≠ 9 → j ≠ 15 → j ≠ 22 → M' 699 j = M 699 j) → M' 699 15 = 0 → M' 699 9 = nI (pe s) → M' 699 22 = nI (pa s) → KI 1 M') : f_X13_isFaulty M KI := by
  obtain ⟨a1, a2, a3, a4, a5, a6⟩ := h
  have w10 := w.2.1
  unfold f_X13_isFaulty f_X13_finish
  intro M1 e1
  have b20 : M1 699 20 = nI (pe s) := by rw [e1, u2_f (by decide)]; exact a2
  by_cases hz : pe s = 0
  · refine cN (fun hne => hne (by rw [b20, hz]; rfl)) ?_
    intro M4 e4 M3 e3
    have c20 : M4 699 20 = nI (pe s) := by rw [e4, u2_f (by decide)]; exact b20
    rw [c20] at e3
    refine cT' (by rw [e3, u2_s, hz]; rfl) ?_
    exact h0 hz M3 (fun i hi => by rw [e3, u2_n hi, e4, u2_n hi, e1, u2_n hi]) (fun j j1 j2 j3 => by rw [e3, u2_f j1, e4, u2_f j3, e1, u2_f j2]) (by rw [e3, u2_f (by decide), e4, u2_f (by decide), e1, u2_s]) (by rw [e3, u2_s]) (by rw [e3, u2_f (by decide), e4, u2_s])
  · have hne : ¬ nI (pe s) = 0 := nI_ne0 (by omega) (by omega)
    refine cT (by rw [b20]; exact hne) ?_
    intro M4 e4 M3 e3
    have c20 : M4 699 20 = nI (pe s) := by rw [e4, u2_f (by decide)]; exact b20
    rw [c20] at e3
    refine cN' (by rw [e3, u2_s]; exact hne) ?_
    exact h1 hz M3 (fun i hi => by rw [e3, u2_n hi, e4, u2_n hi, e1, u2_n hi]) (fun j j1 j2 j3 => by rw [e3, u2_f j1, e4, u2_f j3, e1, u2_f j2]) (by rw [e3, u2_f (by decide), e4, u2_f (by decide), e1, u2_s]) (by rw [e3, u2_s]) (by rw [e3, u2_f (by decide), e4, u2_s, e1, u2_f (by decide)]; exact a6 hz)
/-- no barge of a text is in a lock -/
theorem NLb.lk (g : NLb R) : LK R := by
  intro b j h1 h2 h3
  unfold inL at h3
  rw [g b h1] at h3
  exact absurd h3 (by decide)
theorem nl_bar (h : IB T n (s, R)) (g : NLb R) : NLb (pBar T n (s, R)).2 := by
  rw [pBar_eq]
  show NLb (if pe (bar6 T n (s, R)) = 0 then _ else R)
  split
  · rename_i hz
    have ok := (bar_ok hz).2.2.1
    have w : WF 0 R := h.2.1
    have hf : Fresh R := h.2.2.1
    intro b hb
    rw [aB_nb w ok] at hb
    by_cases e : b = nb R
    · subst e
      rw [(aB_f R _ _ _ _).2.2.2.2.2.2]
      exact (hf _ (Nat.le_refl _) ok).2
    · rw [aB_b e (by decide) ok]
      exact g b (by omega)
  · exact g
theorem nl_ord (h : IO T n (s, R)) (g : NLb R) : NLb (pOrd T n (s, R)).2 := by
  rw [pOrd_eq]
  show NLb (if pe (ord6 T n (s, R)) = 0 then _ else R)
  split
  · have w : WF 0 R := h.2.1
    have n5 := w.nb5
    intro b hb
    have e2 : ∀ a b c d : Int32, nb (aOrder R a b c d) = nb R := fun _ _ _ _ => by unfold nb; rw [aO_s (by decide) (by decide)]
    rw [e2] at hb
    rw [aO_b (by omega) (by decide)]
    exact g b hb
  · exact g
theorem nl_2 (w : Ws T n s) : IB T n (pCan2 T n (s, R)) ∧ NLb (pCan2 T n (s, R)).2 := by
  have h1 : NLb (pCan1 T n (s, R)).2 := fun b hb => by
    have := (IS_1 (R := R) w).2.2.2.2.2
    rw [this] at hb
    exact absurd hb (Nat.not_lt_zero _)
  exact lp_inv (P := fun x => IB T n x ∧ NLb x.2) (fun x _ hx => ⟨IB_b hx.1, nl_bar (s := x.1) (R := x.2) hx.1 hx.2⟩) _ _ ⟨IB_b (IB_1 w), nl_bar (s := (pCan1 T n (s, R)).1) (R := (pCan1 T n (s, R)).2) (IB_1 w) h1⟩
theorem nl_3 (w : Ws T n s) : IO T n (pCan T n (s, R)) ∧ NLb (pCan T n (s, R)).2 := lp_inv (P := fun x => IO T n x ∧ NLb x.2) (fun x _ hx => ⟨IO_o hx.1, nl_ord (s := x.1) (R := x.2) hx.1 hx.2⟩) _ _ ⟨IO_2 w, (nl_2 w).2⟩
theorem q_loadCanal (g : Inv U M) (hK : ∀ M', Inv U M' → K M') : f_L_loadCanal p M (fun r2 M1 => f_X13_loadCanal p M1 (fun r4 M3 => LawE K r2 r4 M3)) := by
  unfold f_L_loadCanal f_X12_loadCanal
  obtain ⟨ci, di, nx, h, g1, g2, g3, g4, g5⟩ := id g
  obtain ⟨q1, q2, q3, q4, q5, q6, q7⟩ := id g1
  obtain ⟨f, t1, t2, t3, t4⟩ := txt_T g4
  have n5 := q6.nb5
  have n30 := q6.no30
  refine c_reqText t2 t1 (fun l hl ep => ?_) (fun hp => ⟨rfl, ?_⟩)
  · have hl5 : l ≤ 500 := by omega
    refine c_begin (T := tx M) (n := l) (fun i hi => (t4 i (by omega)).1) hl5 ep (fun M1 a1 a2 a3 => ?_)
    have d0 : vp_in (M1 0 6) 11 ∧ 27 + 61 * (M1 0 6).toNatClampNeg = 27 + 61 * di := by rw [a1 0 (by decide)]; exact g1.di11
    refine ⟨d0.1, ?_⟩
    rw [d0.2]
    have w0 := s0_w (tx M) hl5
    refine c_parse (by omega) a3 w0 (M 701) (fun M2 b1 b2 b3 => ?_)
    obtain ⟨y, ey⟩ : ∃ y, y = pCan (tx M) l (s0 (tx M) l, M 701) := ⟨_, rfl⟩
    rw [← ey] at b2 b3
    obtain ⟨⟨wy1, wy2, wy3⟩, nly⟩ := nl_3 (R := M 701) w0
    rw [← ey] at wy1 wy2 wy3 nly
    unfold f_X10_empty
    intro M3 e3
    unfold f_X10_failed
    have k16 : M3 1 6 = nI (pe y.1) := by rw [e3, u2_f (by decide)]; exact b2.2.1
    have k3 : ∀ i, i ≠ 1 → (i < 27 + 61 * di ∨ 27 + 61 * di + 61 ≤ i) → M3 i = M i := fun i i1 i2 => by rw [e3, u2_n i1, b1.1 i i1 i2, a1 i i1]
    have k11 : M3 1 1 = 0 := by rw [e3, u2_s]
    have k17 : M3 1 7 = M2 1 7 := by rw [e3, u2_f (by decide)]
    have kd : ∀ i, 27 + 61 * di ≤ i → i < 27 + 61 * di + 61 → M3 i = M2 i := fun i i1 i2 => by rw [e3, u2_n (by omega)]
    -- the model's side
    have mod : ∀ S : TM, S 699 = M 699 → S 700 = M 700 → S 701 = M 701 → S 707 = M 707 → (∀ r4 M', (∀ i, i ≠ 699 → i ≠ 700 → i ≠ 701 → M' i = S i) → (∀ j, j < 6 ∨ j = 10 ∨ j = 12 ∨ j = 13 → M' 699 j = S 699 j) → M' 699 6 = 0 → M' 699 8 = 0 → M' 699 15 = 0 → M' 699 9 = nI (pe y.1) → (pe y.1 = 0 → M' 699 22 = -1 ∧ M' 699 7 = 0 ∧ M' 699 11 = 0 ∧ REq y.2 (M' 700) ∧ r4 = y.2 2) → (pe y.1 ≠ 0 → M' 699 22 = nI (pa y.1) ∧ M' 700 = S 700 ∧ M' 699 7 = S 699 7 ∧ M' 699 11 = S 699 11 ∧ r4 = -1) → KL r4 M') → f_X13_loadCanal p S KL := fun S u1 u2' u3 u4 hF => by
      unfold f_X13_loadCanal
      refine m_isLen (f := f) (by rw [u1]; exact t3) t1 ?_
      refine m_lacks rfl ?_
      rw [ep, inR_nI (by omega) (by omega)]
      refine cT' rfl ?_
      refine m_start (T := tx M) (n := l) (fun i hi => ⟨by rw [u2_n (by decide), u4]; exact (t4 i (by omega)).2, (t4 i (by omega)).1.2.2⟩) hl5 rfl (fun S1 s1 s2 s3 => ?_)
      intro S2 z2
      have r2' : Rw S2 701 := Or.inr ⟨by rw [z2, u2_s], rfl⟩
      have R2 : S2 701 = M 701 := by rw [z2, u2_n (by decide), s1 701 (by decide), u2_n (by decide)]; exact u3
      have p2 : PM S2 (tx M) l (s0 (tx M) l) := by
        obtain ⟨p1, p2, p3, p4, p5, p6⟩ := s3
        exact ⟨p1.of (by rw [z2, u2_f (by decide)]) (by rw [z2, u2_n (by decide)]), by rw [z2, u2_f (by decide)]; exact p2, by rw [z2, u2_f (by decide)]; exact p3, by rw [z2, u2_f (by decide)]; exact p4, by rw [z2, u2_f (by decide)]; exact p5, fun hne => absurd rfl hne⟩
      refine m_readCanal r2' R2 p2 w0 (fun S3 v1 v2 v3 => ?_)
      rw [← ey] at v2 v3
      intro S4 z4
      have p4 : PM S4 (tx M) l y.1 := by
        obtain ⟨p1, p2, p3, p4, p5, p6⟩ := v2
        exact ⟨p1.of (by rw [z4, u2_f (by decide)]) (by rw [z4, u2_n (by decide)]), by rw [z4, u2_f (by decide)]; exact p2, by rw [z4, u2_f (by decide)]; exact p3, by rw [z4, u2_f (by decide)]; exact p4, by rw [z4, u2_f (by decide)]; exact p5, fun hne => by rw [z4, u2_f (by decide)]; exact p6 hne⟩
      have c4 : ∀ i, i ≠ 699 → i ≠ 701 → S4 i = S i := fun i i1 i2 => by rw [z4, u2_n i1, v1.1 i i1 i2, z2, u2_n i1, s1 i i1, u2_n i1]
      have d4 : ∀ j, j < 16 → j ≠ 6 → j ≠ 8 → S4 699 j = S 699 j := fun j j1 j2 j3 => by rw [z4, u2_f j2, v1.2 j (by omega), z2, u2_f j2, s2 j (by omega), u2_f j3]
      have d8 : S4 699 8 = 0 := by rw [z4, u2_f (by decide), v1.2 8 (by omega), z2, u2_f (by decide), s2 8 (by omega), u2_s]; rfl
      have d6 : S4 699 6 = 0 := by rw [z4, u2_s]
      refine m_faulty p4 wy1 (fun hz S5 x1 x2 x3 x4 x5 => ?_) (fun hz S5 x1 x2 x3 x4 x5 => ?_)
      · refine cT' rfl ?_
        refine m_copyRow rfl rfl (Nat.le_refl _) (Nat.le_refl _) (by decide) (by decide) (fun S6 y1 y2 => ?_)
        intro S7 z7 S8 z8
        have e701 : S5 701 = y.2 := by rw [x1 701 (by decide), z4, u2_n (by decide)]; exact v3
        rw [e701] at y2
        have e700 : S8 700 = S6 700 := by rw [z8, u2_n (by decide), z7, u2_n (by decide)]
        have e6 : S8 699 6 = 0 := by rw [z8, u2_f (by decide), z7, u2_f (by decide), y1 699 (by decide), x2 6 (by decide) (by decide) (by decide)]; exact d6
        have hr8 : Rw S8 700 := Or.inl ⟨e6, rfl⟩
        refine ⟨hr8.v' rfl, vv2, ?_⟩
        rw [hr8.rd' rfl (x := 2) (i := 2) rfl (by decide)]
        refine hF _ S8 (fun i i1 i2 i3 => by rw [z8, u2_n i1, z7, u2_n i1, y1 i i2, x1 i i1, c4 i i1 i3]) (fun j hj => by rw [z8, u2_f (by omega), z7, u2_f (by omega), y1 699 (by decide), x2 j (by omega) (by omega) (by omega), d4 j (by omega) (by omega) (by omega)]) e6 (by rw [z8, u2_f (by decide), z7, u2_f (by decide), y1 699 (by decide), x2 8 (by decide) (by decide) (by decide)]; exact d8) (by rw [z8, u2_f (by decide), z7, u2_f (by decide), y1 699 (by decide)]; exact x3) (by rw [z8, u2_f (by decide), z7, u2_f (by decide), y1 699 (by decide)]; exact x4) (fun _ => ⟨by rw [z8, u2_f (by decide), z7, u2_f (by decide), y1 699 (by decide)]; exact x5, by rw [z8, u2_f (by decide), z7, u2_s], by rw [z8, u2_s], by rw [e700]; exact y2, by rw [e700]; exact y2 2 (by decide)⟩) (fun hne => absurd hz hne)
      · refine cN' (by decide) ?_
        exact hF _ S5 (fun i i1 _ i3 => by rw [x1 i i1, c4 i i1 i3]) (fun j hj => by rw [x2 j (by omega) (by omega) (by omega), d4 j (by omega) (by omega) (by omega)]) (by rw [x2 6 (by decide) (by decide) (by decide)]; exact d6) (by rw [x2 8 (by decide) (by decide) (by decide)]; exact d8) x3 x4 (fun he => absurd he hz) (fun _ => ⟨x5, by rw [x1 700 (by decide), c4 700 (by decide) (by decide)], by rw [x2 7 (by decide) (by decide) (by decide), d4 7 (by decide) (by decide) (by decide)], by rw [x2 11 (by decide) (by decide) (by decide), d4 11 (by decide) (by decide) (by decide)], rfl⟩)
    rw [k16]
    refine ⟨fun hz => ?_, fun hz => ?_⟩
    · have hz0 : pe y.1 = 0 := by
        have := wy1.2.1
        exact nI_inj (b := 0) (by omega) (by decide) hz
      refine cT' rfl ?_
      have k05 : M3 0 5 = nI ci := by rw [k3 0 (by decide) (by omega)]; exact q2
      have k06 : M3 0 6 = nI di := by rw [k3 0 (by decide) (by omega)]; exact q3
      rw [k05, k06]
      refine ⟨vp_in_nI (by omega) (by decide), vp_in_nI (by omega) (by decide), ?_⟩
      intro M4 e4 M5 e5
      unfold f_X5_clear
      intro M6 e6 M7 e7
      have k75 : M7 0 5 = nI di := by rw [e7, u2_f (by decide), e6, u2_n (by decide), e5, u2_f (by decide), e4, u2_s]
      have k76 : M7 0 6 = nI ci := by rw [e7, u2_f (by decide), e6, u2_n (by decide), e5, u2_s]
      have k74 : M7 0 4 = 0 := by rw [e7, u2_s]
      have k78 : M7 0 8 = M 0 8 := by rw [e7, u2_f (by decide), e6, u2_n (by decide), e5, u2_f (by decide), e4, u2_f (by decide), k3 0 (by decide) (by omega)]
      have k7 : ∀ i, i ≠ 0 → i ≠ 25 → M7 i = M3 i := fun i i1 i2 => by rw [e7, u2_n i1, e6, u2_n i2, e5, u2_n i1, e4, u2_n i1]
      have k251 : M7 25 1 = nI nx := by rw [e7, u2_n (by decide), e6, u2_f (by decide), e5, u2_n (by decide), e4, u2_n (by decide), k3 25 (by decide) (by omega)]; exact g2.1
      have k252 : M7 25 2 = 0 := by rw [e7, u2_n (by decide), e6, u2_s]
      rw [k75]
      refine ⟨vp_in_nI (by omega) (by decide), ?_⟩
      rw [nI_clamp (by omega)]
      have ry : RelC (27 + 61 * di) M7 y.2 := (b3 hz0).frame (fun i i1 i2 => by rw [k7 i (by omega) (by omega), kd i i1 i2]) wy2.nb5 wy2.no30
      rw [ry.1.2.1]
      intro M8 e8
      have k8 : ∀ i, i ≠ 710 → M8 i = M7 i := fun i hi => by rw [e8, u2_n hi]
      refine mod M8 (by rw [k8 699 (by decide), k7 699 (by decide) (by decide), k3 699 (by decide) (by omega)]) (by rw [k8 700 (by decide), k7 700 (by decide) (by decide), k3 700 (by decide) (by omega)]) (by rw [k8 701 (by decide), k7 701 (by decide) (by decide), k3 701 (by decide) (by omega)]) (by rw [k8 707 (by decide), k7 707 (by decide) (by decide), k3 707 (by decide) (by omega)]) (fun r4 M9 m1 m2 m6 m8 m15 m9 m0 m01 => ?_)
      obtain ⟨n1, n2, n3, n4, n5'⟩ := m0 hz0
      have k9 : ∀ i, i ≠ 699 → i ≠ 700 → i ≠ 701 → i ≠ 710 → M9 i = M7 i := fun i i1 i2 i3 i4 => by rw [m1 i i1 i2 i3, k8 i i4]
      have wy : WF U y.2 := WF.mono (Nat.zero_le _) wy2
      have nby : Nb y.2 := ⟨wy3 hz0, nly.lk⟩
      refine lawE m8 (fun _ => by rw [m1 710 (by decide) (by decide) (by decide), e8, u2_s]; exact n5'.symm) (hK M9 ⟨di, ci, nx, 0, ?_, ?_, ?_, ?_, ?_⟩)
      · unfold Cur
        rw [k9 0 (by decide) (by decide) (by decide) (by decide)]
        exact ⟨by omega, k75, k76, m6, (ry.frame (fun i i1 i2 => k9 i (by omega) (by omega) (by omega) (by omega)) wy.nb5 wy.no30).row wy n4, wy.row n4, nby.row wy n4⟩
      · refine ⟨by rw [k9 25 (by decide) (by decide) (by decide) (by decide)]; exact k251, by rw [k9 25 (by decide) (by decide) (by decide) (by decide)]; exact k252, g2.2.2.1, by omega, n2, fun k hk => absurd hk (Nat.not_lt_zero _)⟩
      · have e0 : bz (0 : Int32) = 0 := by decide
        refine ⟨by rw [k9 0 (by decide) (by decide) (by decide) (by decide), k74, n3], fun hne => ?_⟩
        rw [k9 0 (by decide) (by decide) (by decide) (by decide), k74] at hne
        exact absurd e0 hne
      · refine ⟨0, by omega, by rw [k9 1 (by decide) (by decide) (by decide) (by decide), k7 1 (by decide) (by decide), k11]; rfl, m15, fun i hi => absurd hi (Nat.not_lt_zero _), ?_, ?_⟩
        · rw [k9 1 (by decide) (by decide) (by decide) (by decide), k7 1 (by decide) (by decide), k16, m9]
        · rw [k9 1 (by decide) (by decide) (by decide) (by decide), k7 1 (by decide) (by decide), k17, n1]
          exact (b2.2.2.2 hz0).1
      · obtain ⟨gg, o1, o2, o3, o4⟩ := g5
        refine ⟨gg, o1, by rw [k9 0 (by decide) (by decide) (by decide) (by decide), k78]; exact o2, ?_, fun i hi => ?_⟩
        · rw [m2 13 (by omega), k8 699 (by decide), k7 699 (by decide) (by decide), k3 699 (by decide) (by omega)]
          exact o3
        · rw [k9 698 (by decide) (by decide) (by decide) (by decide), k7 698 (by decide) (by decide), k3 698 (by decide) (by omega), k9 706 (by decide) (by decide) (by decide) (by decide), k7 706 (by decide) (by decide), k3 706 (by decide) (by omega)]
          exact o4 i hi
    · have hz0 : pe y.1 ≠ 0 := fun he => hz (by rw [he]; rfl)
      refine cN' (by decide) ?_
      intro M8 e8
      have k8 : ∀ i, i ≠ 710 → M8 i = M3 i := fun i hi => by rw [e8, u2_n hi]
      refine mod M8 (by rw [k8 699 (by decide), k3 699 (by decide) (by omega)]) (by rw [k8 700 (by decide), k3 700 (by decide) (by omega)]) (by rw [k8 701 (by decide), k3 701 (by decide) (by omega)]) (by rw [k8 707 (by decide), k3 707 (by decide) (by omega)]) (fun r4 M9 m1 m2 m6 m8 m15 m9 m0 m01 => ?_)
      obtain ⟨n1, n2, n3, n4, n5'⟩ := m01 hz0
      have k9 : ∀ i, i ≠ 1 → i ≠ 699 → i ≠ 700 → i ≠ 701 → i ≠ 710 → (i < 27 + 61 * di ∨ 27 + 61 * di + 61 ≤ i) → M9 i = M i := fun i i0 i1 i2 i3 i4 i5 => by rw [m1 i i1 i2 i3, k8 i i4, k3 i i0 i5]
      have e89 : M8 699 = M 699 := by rw [k8 699 (by decide), k3 699 (by decide) (by omega)]
      have e700 : M9 700 = M 700 := by rw [n2, k8 700 (by decide), k3 700 (by decide) (by omega)]
      refine lawE m8 (fun _ => by rw [m1 710 (by decide) (by decide) (by decide), e8, u2_s]; exact n5'.symm) (hK M9 ⟨ci, di, nx, h, ?_, ?_, ?_, ?_, ?_⟩)
      · exact g1.fr (k9 0 (by decide) (by decide) (by decide) (by decide) (by decide) (by omega)) (fun i i1 i2 => k9 i (by omega) (by omega) (by omega) (by omega) (by omega) (by omega)) (by rw [m6]; exact q4.symm) e700
      · exact g2.fr (k9 25 (by decide) (by decide) (by decide) (by decide) (by decide) (by omega)) (fun i i1 i2 => k9 i (by omega) (by omega) (by omega) (by omega) (by omega) (by omega)) (by rw [n3, e89]) (k9 705 (by decide) (by decide) (by decide) (by decide) (by decide) (by omega))
      · exact g3.fr (by rw [k9 0 (by decide) (by decide) (by decide) (by decide) (by decide) (by omega)]) (fun i i1 i2 => k9 i (by omega) (by omega) (by omega) (by omega) (by omega) (by omega)) (by rw [n4, e89]) (k9 704 (by decide) (by decide) (by decide) (by decide) (by decide) (by omega))
      · have e1 : M9 1 = M3 1 := by rw [m1 1 (by decide) (by decide) (by decide), k8 1 (by decide)]
        exact ⟨0, by omega, by rw [e1, k11]; rfl, m15, fun i hi => absurd hi (Nat.not_lt_zero _), by rw [e1, k16, m9], by rw [e1, k17, n1]; exact b2.2.2.1 hz0⟩
      · exact g5.fr (by rw [k9 0 (by decide) (by decide) (by decide) (by decide) (by decide) (by omega)]) (k9 698 (by decide) (by decide) (by decide) (by decide) (by decide) (by omega)) (by rw [m2 13 (by omega), e89]) (k9 706 (by decide) (by decide) (by decide) (by decide) (by decide) (by omega))
  · unfold f_X13_loadCanal
    refine m_isLen t3 t1 ?_
    refine m_lacks rfl ?_
    rw [hp]
    exact cN' (by decide) (finF g hK)
end LOAD
