/-! loadCanal: both -/
section LOAD2
variable {c' : Bool} {i : Nat} {M M1 M' S S' : TM} {T : Nat → Nat} {U t V : Nat} {K : TM → Prop} {KI KL : Int32 → TM → Prop} {KV : TM → Prop} {X : String → TM → Prop} {p q u v z : Int32} {R R' : Nat → Int32} {x : PR} {s : PS} {a b c d e f j k m x' h nx ci di r o n what : Nat}
theorem q_loadCanal (g : Inv U M) (hK : ∀ M', Inv U M' → K M') : f_L_loadCanal p M (fun r2 M1 => f_X13_loadCanal p M1 (fun r4 M3 => LawE K r2 r4 M3)) := by
  unfold f_L_loadCanal f_X12_loadCanal
  obtain ⟨ci, di, nx, h, g1, g2, g3, g4, g5⟩ := id g
  obtain ⟨q1, q2, q3, q4, q5, q6, q7⟩ := id g1
  obtain ⟨f, t1, t2, t3, t4⟩ := txt_T g4
  have n5 := q6.nb5
  have n30 := q6.no30
  refine c_reqText t2 t1 (fun l hl ep => ?_) (fun hp => ⟨rfl, ?_⟩)
  · have hl5 : l ≤ 500 := by omega
    refine c_begin (T := tx M) (n := l) (fun i hi => (t4 i (by omega)).1) hl5 ep (fun M1 a1 a2 a3 => ?_)
    have d0 : vp_in (M1 0 6) 11 ∧ 27 + 61 * (M1 0 6).toNatClampNeg = 27 + 61 * di := by rw [a1 0 (by decide)]; exact g1.di11
    refine ⟨d0.1, ?_⟩
    rw [d0.2]
    have w0 := s0_w (tx M) hl5
    refine c_parse (by omega) a3 w0 (M 701) (fun M2 b1 b2 b3 => ?_)
    obtain ⟨y, ey⟩ : ∃ y, y = pCan (tx M) l (s0 (tx M) l, M 701) := ⟨_, rfl⟩
    rw [← ey] at b2 b3
    obtain ⟨⟨wy1, wy2, wy3⟩, nly⟩ := nl_3 (R := M 701) w0
    rw [← ey] at wy1 wy2 wy3 nly
    unfold f_X10_empty
    intro M3 e3
    unfold f_X10_failed
    have k16 : M3 1 6 = nI (pe y.1) := by rw [e3, u2_f (by decide)]; exact b2.2.1
    have k3 : ∀ i, i ≠ 1 → (i < 27 + 61 * di ∨ 27 + 61 * di + 61 ≤ i) → M3 i = M i := fun i i1 i2 => by rw [e3, u2_n i1, b1.1 i i1 i2, a1 i i1]
    have k11 : M3 1 1 = 0 := by rw [e3, u2_s]
    have k17 : M3 1 7 = M2 1 7 := by rw [e3, u2_f (by decide)]
    have kd : ∀ i, 27 + 61 * di ≤ i → i < 27 + 61 * di + 61 → M3 i = M2 i := fun i i1 i2 => by rw [e3, u2_n (by omega)]
    -- the model's side
    have mod : ∀ (KL : Int32 → TM → Prop) (S : TM), S 699 = M 699 → S 700 = M 700 → S 701 = M 701 → S 707 = M 707 → (∀ r4 M', (∀ i, i ≠ 699 → i ≠ 700 → i ≠ 701 → M' i = S i) → (∀ j, j < 6 ∨ j = 10 ∨ j = 12 ∨ j = 13 → M' 699 j = S 699 j) → M' 699 6 = 0 → M' 699 8 = 0 → M' 699 15 = 0 → M' 699 9 = nI (pe y.1) → (pe y.1 = 0 → M' 699 22 = -1 ∧ M' 699 7 = 0 ∧ M' 699 11 = 0 ∧ REq y.2 (M' 700) ∧ r4 = y.2 2) → (pe y.1 ≠ 0 → M' 699 22 = nI (pa y.1) ∧ M' 700 = S 700 ∧ M' 699 7 = S 699 7 ∧ M' 699 11 = S 699 11 ∧ r4 = -1) → KL r4 M') → f_X13_loadCanal p S KL := fun KL S u1 u2' u3 u4 hF => by
      unfold f_X13_loadCanal
      refine m_isLen (f := f) (by rw [u1]; exact t3) t1 ?_
      refine m_lacks rfl ?_
      rw [ep, inR_nI (by omega) (by omega)]
      refine cT' rfl ?_
      refine m_start (T := tx M) (n := l) (fun i hi => ⟨by rw [u2_n (by decide), u4]; exact (t4 i (by omega)).2, (t4 i (by omega)).1.2.2⟩) hl5 rfl (fun S1 s1 s2 s3 => ?_)
      intro S2 z2
      have r2' : Rw S2 701 := Or.inr ⟨by rw [z2, u2_s], rfl⟩
      have R2 : S2 701 = M 701 := by rw [z2, u2_n (by decide), s1 701 (by decide), u2_n (by decide)]; exact u3
      have p2 : PM S2 (tx M) l (s0 (tx M) l) := by
        obtain ⟨p1, p2, p3, p4, p5, p6⟩ := s3
        exact ⟨p1.of (by rw [z2, u2_f (by decide)]) (by rw [z2, u2_n (by decide)]), by rw [z2, u2_f (by decide)]; exact p2, by rw [z2, u2_f (by decide)]; exact p3, by rw [z2, u2_f (by decide)]; exact p4, by rw [z2, u2_f (by decide)]; exact p5, fun hne => absurd rfl hne⟩
      refine m_readCanal r2' R2 p2 w0 (fun S3 v1 v2 v3 => ?_)
      rw [← ey] at v2 v3
      intro S4 z4
      have p4 : PM S4 (tx M) l y.1 := by
        obtain ⟨p1, p2, p3, p4, p5, p6⟩ := v2
        exact ⟨p1.of (by rw [z4, u2_f (by decide)]) (by rw [z4, u2_n (by decide)]), by rw [z4, u2_f (by decide)]; exact p2, by rw [z4, u2_f (by decide)]; exact p3, by rw [z4, u2_f (by decide)]; exact p4, by rw [z4, u2_f (by decide)]; exact p5, fun hne => by rw [z4, u2_f (by decide)]; exact p6 hne⟩
      have c4 : ∀ i, i ≠ 699 → i ≠ 701 → S4 i = S i := fun i i1 i2 => by rw [z4, u2_n i1, v1.1 i i1 i2, z2, u2_n i1, s1 i i1, u2_n i1]
      have d4 : ∀ j, j < 16 → j ≠ 6 → j ≠ 8 → S4 699 j = S 699 j := fun j j1 j2 j3 => by rw [z4, u2_f j2, v1.2 j (by omega), z2, u2_f j2, s2 j (by omega), u2_f j3]
      have d8 : S4 699 8 = 0 := by rw [z4, u2_f (by decide), v1.2 8 (by omega), z2, u2_f (by decide), s2 8 (by omega), u2_s]; rfl
      have d6 : S4 699 6 = 0 := by rw [z4, u2_s]
      refine m_faulty p4 wy1 (fun hz S5 x1 x2 x3 x4 x5 => ?_) (fun hz S5 x1 x2 x3 x4 x5 => ?_)
      · refine cT' rfl ?_
        refine m_copyRow rfl rfl (Nat.le_refl _) (Nat.le_refl _) (by decide) (by decide) (fun S6 y1 y2 => ?_)
        intro S7 z7 S8 z8
        have e701 : S5 701 = y.2 := by rw [x1 701 (by decide), z4, u2_n (by decide)]; exact v3
        rw [e701] at y2
        have e700 : S8 700 = S6 700 := by rw [z8, u2_n (by decide), z7, u2_n (by decide)]
        have e6 : S8 699 6 = 0 := by rw [z8, u2_f (by decide), z7, u2_f (by decide), y1 699 (by decide), x2 6 (by decide) (by decide) (by decide)]; exact d6
        have hr8 : Rw S8 700 := Or.inl ⟨e6, rfl⟩
        refine ⟨hr8.v' rfl, vv2, ?_⟩
        rw [hr8.rd' rfl (x := 2) (i := 2) rfl (by decide)]
        refine hF _ S8 (fun i i1 i2 i3 => by rw [z8, u2_n i1, z7, u2_n i1, y1 i i2, x1 i i1, c4 i i1 i3]) (fun j hj => by rw [z8, u2_f (by omega), z7, u2_f (by omega), y1 699 (by decide), x2 j (by omega) (by omega) (by omega), d4 j (by omega) (by omega) (by omega)]) e6 (by rw [z8, u2_f (by decide), z7, u2_f (by decide), y1 699 (by decide), x2 8 (by decide) (by decide) (by decide)]; exact d8) (by rw [z8, u2_f (by decide), z7, u2_f (by decide), y1 699 (by decide)]; exact x3) (by rw [z8, u2_f (by decide), z7, u2_f (by decide), y1 699 (by decide)]; exact x4) (fun _ => ⟨by rw [z8, u2_f (by decide), z7, u2_f (by decide), y1 699 (by decide)]; exact x5, by rw [z8, u2_f (by decide), z7, u2_s], by rw [z8, u2_s], by rw [e700]; exact y2, by rw [e700]; exact y2 2 (by decide)⟩) (fun hne => absurd hz hne)
      · refine cN' (by decide) ?_
        exact hF _ S5 (fun i i1 _ i3 => by rw [x1 i i1, c4 i i1 i3]) (fun j hj => by rw [x2 j (by omega) (by omega) (by omega), d4 j (by omega) (by omega) (by omega)]) (by rw [x2 6 (by decide) (by decide) (by decide)]; exact d6) (by rw [x2 8 (by decide) (by decide) (by decide)]; exact d8) x3 x4 (fun he => absurd he hz) (fun _ => ⟨x5, by rw [x1 700 (by decide), c4 700 (by decide) (by decide)], by rw [x2 7 (by decide) (by decide) (by decide), d4 7 (by decide) (by decide) (by decide)], by rw [x2 11 (by decide) (by decide) (by decide), d4 11 (by decide) (by decide) (by decide)], rfl⟩)
    rw [k16]
    refine ⟨fun hz => ?_, fun hz => ?_⟩
    · have hz0 : pe y.1 = 0 := by
        have := wy1.2.1
        exact nI_inj (b := 0) (by omega) (by decide) hz
      refine cT' rfl ?_
      have k05 : M3 0 5 = nI ci := by rw [k3 0 (by decide) (by omega)]; exact q2
      have k06 : M3 0 6 = nI di := by rw [k3 0 (by decide) (by omega)]; exact q3
      rw [k05, k06]
      refine ⟨vp_in_nI (by omega) (by decide), vp_in_nI (by omega) (by decide), ?_⟩
      intro M4 e4 M5 e5
      unfold f_X5_clear
      intro M6 e6 M7 e7
      have k75 : M7 0 5 = nI di := by rw [e7, u2_f (by decide), e6, u2_n (by decide), e5, u2_f (by decide), e4, u2_s]
      have k76 : M7 0 6 = nI ci := by rw [e7, u2_f (by decide), e6, u2_n (by decide), e5, u2_s]
      have k74 : M7 0 4 = 0 := by rw [e7, u2_s]
      have k78 : M7 0 8 = M 0 8 := by rw [e7, u2_f (by decide), e6, u2_n (by decide), e5, u2_f (by decide), e4, u2_f (by decide), k3 0 (by decide) (by omega)]
      have k7 : ∀ i, i ≠ 0 → i ≠ 25 → M7 i = M3 i := fun i i1 i2 => by rw [e7, u2_n i1, e6, u2_n i2, e5, u2_n i1, e4, u2_n i1]
      have k251 : M7 25 1 = nI nx := by rw [e7, u2_n (by decide), e6, u2_f (by decide), e5, u2_n (by decide), e4, u2_n (by decide), k3 25 (by decide) (by omega)]; exact g2.1
      have k252 : M7 25 2 = 0 := by rw [e7, u2_n (by decide), e6, u2_s]
      rw [k75]
      refine ⟨vp_in_nI (by omega) (by decide), ?_⟩
      rw [nI_clamp (by omega)]
      have ry : RelC (27 + 61 * di) M7 y.2 := (b3 hz0).frame (fun i i1 i2 => by rw [k7 i (by omega) (by omega), kd i i1 i2]) wy2.nb5 wy2.no30
      rw [ry.1.2.1]
      intro M8 e8
      have k8 : ∀ i, i ≠ 710 → M8 i = M7 i := fun i hi => by rw [e8, u2_n hi]
      refine mod _ M8 (by rw [k8 699 (by decide), k7 699 (by decide) (by decide), k3 699 (by decide) (by omega)]) (by rw [k8 700 (by decide), k7 700 (by decide) (by decide), k3 700 (by decide) (by omega)]) (by rw [k8 701 (by decide), k7 701 (by decide) (by decide), k3 701 (by decide) (by omega)]) (by rw [k8 707 (by decide), k7 707 (by decide) (by decide), k3 707 (by decide) (by omega)]) (fun r4 M9 m1 m2 m6 m8 m15 m9 m0 m01 => ?_)
      obtain ⟨n1, n2, n3, n4, n5'⟩ := m0 hz0
      have k9 : ∀ i, i ≠ 699 → i ≠ 700 → i ≠ 701 → i ≠ 710 → M9 i = M7 i := fun i i1 i2 i3 i4 => by rw [m1 i i1 i2 i3, k8 i i4]
      have wy : WF U y.2 := WF.mono (Nat.zero_le _) wy2
      have nby : Nb y.2 := ⟨wy3 hz0, nly.lk⟩
      refine lawE m8 (fun _ => by rw [m1 710 (by decide) (by decide) (by decide), e8, u2_s]; exact n5'.symm) (hK M9 ⟨di, ci, nx, 0, ?_, ?_, ?_, ?_, ?_⟩)
      · unfold Cur
        rw [k9 0 (by decide) (by decide) (by decide) (by decide)]
        exact ⟨by omega, k75, k76, m6, (ry.frame (fun i i1 i2 => k9 i (by omega) (by omega) (by omega) (by omega)) wy.nb5 wy.no30).row wy n4, wy.row n4, nby.row wy n4⟩
      · refine ⟨by rw [k9 25 (by decide) (by decide) (by decide) (by decide)]; exact k251, by rw [k9 25 (by decide) (by decide) (by decide) (by decide)]; exact k252, g2.2.2.1, by omega, n2, fun k hk => absurd hk (Nat.not_lt_zero _)⟩
      · have e0 : bz (0 : Int32) = 0 := by decide
        refine ⟨by rw [k9 0 (by decide) (by decide) (by decide) (by decide), k74, n3], fun hne => ?_⟩
        rw [k9 0 (by decide) (by decide) (by decide) (by decide), k74] at hne
        exact absurd e0 hne
      · refine ⟨0, by omega, by rw [k9 1 (by decide) (by decide) (by decide) (by decide), k7 1 (by decide) (by decide), k11]; rfl, m15, fun i hi => absurd hi (Nat.not_lt_zero _), ?_, ?_⟩
        · rw [k9 1 (by decide) (by decide) (by decide) (by decide), k7 1 (by decide) (by decide), k16, m9]
        · rw [k9 1 (by decide) (by decide) (by decide) (by decide), k7 1 (by decide) (by decide), k17, n1]
          exact (b2.2.2.2 hz0).1
      · obtain ⟨gg, o1, o2, o3, o4⟩ := g5
        refine ⟨gg, o1, by rw [k9 0 (by decide) (by decide) (by decide) (by decide), k78]; exact o2, ?_, fun i hi => ?_⟩
        · rw [m2 13 (by omega), k8 699 (by decide), k7 699 (by decide) (by decide), k3 699 (by decide) (by omega)]
          exact o3
        · rw [k9 698 (by decide) (by decide) (by decide) (by decide), k7 698 (by decide) (by decide), k3 698 (by decide) (by omega), k9 706 (by decide) (by decide) (by decide) (by decide), k7 706 (by decide) (by decide), k3 706 (by decide) (by omega)]
          exact o4 i hi
    · have hz0 : pe y.1 ≠ 0 := fun he => hz (by rw [he]; rfl)
      refine cN' (by decide) ?_
      intro M8 e8
      have k8 : ∀ i, i ≠ 710 → M8 i = M3 i := fun i hi => by rw [e8, u2_n hi]
      refine mod _ M8 (by rw [k8 699 (by decide), k3 699 (by decide) (by omega)]) (by rw [k8 700 (by decide), k3 700 (by decide) (by omega)]) (by rw [k8 701 (by decide), k3 701 (by decide) (by omega)]) (by rw [k8 707 (by decide), k3 707 (by decide) (by omega)]) (fun r4 M9 m1 m2 m6 m8 m15 m9 m0 m01 => ?_)
      obtain ⟨n1, n2, n3, n4, n5'⟩ := m01 hz0
      have k9 : ∀ i, i ≠ 1 → i ≠ 699 → i ≠ 700 → i ≠ 701 → i ≠ 710 → (i < 27 + 61 * di ∨ 27 + 61 * di + 61 ≤ i) → M9 i = M i := fun i i0 i1 i2 i3 i4 i5 => by rw [m1 i i1 i2 i3, k8 i i4, k3 i i0 i5]
      have e89 : M8 699 = M 699 := by rw [k8 699 (by decide), k3 699 (by decide) (by omega)]
      have e700 : M9 700 = M 700 := by rw [n2, k8 700 (by decide), k3 700 (by decide) (by omega)]
      refine lawE m8 (fun _ => by rw [m1 710 (by decide) (by decide) (by decide), e8, u2_s]; exact n5'.symm) (hK M9 ⟨ci, di, nx, h, ?_, ?_, ?_, ?_, ?_⟩)
      · exact g1.fr (k9 0 (by decide) (by decide) (by decide) (by decide) (by decide) (by omega)) (fun i i1 i2 => k9 i (by omega) (by omega) (by omega) (by omega) (by omega) (by omega)) (by rw [m6]; exact q4.symm) e700
      · exact g2.fr (k9 25 (by decide) (by decide) (by decide) (by decide) (by decide) (by omega)) (fun i i1 i2 => k9 i (by omega) (by omega) (by omega) (by omega) (by omega) (by omega)) (by rw [n3, e89]) (k9 705 (by decide) (by decide) (by decide) (by decide) (by decide) (by omega))
      · exact g3.fr (by rw [k9 0 (by decide) (by decide) (by decide) (by decide) (by decide) (by omega)]) (fun i i1 i2 => k9 i (by omega) (by omega) (by omega) (by omega) (by omega) (by omega)) (by rw [n4, e89]) (k9 704 (by decide) (by decide) (by decide) (by decide) (by decide) (by omega))
      · have e1 : M9 1 = M3 1 := by rw [m1 1 (by decide) (by decide) (by decide), k8 1 (by decide)]
        exact ⟨0, by omega, by rw [e1, k11]; rfl, m15, fun i hi => absurd hi (Nat.not_lt_zero _), by rw [e1, k16, m9], by rw [e1, k17, n1]; exact b2.2.2.1 hz0⟩
      · exact g5.fr (by rw [k9 0 (by decide) (by decide) (by decide) (by decide) (by decide) (by omega)]) (k9 698 (by decide) (by decide) (by decide) (by decide) (by decide) (by omega)) (by rw [m2 13 (by omega), e89]) (k9 706 (by decide) (by decide) (by decide) (by decide) (by decide) (by omega))
  · unfold f_X13_loadCanal
    refine m_isLen t3 t1 ?_
    refine m_lacks rfl ?_
    rw [hp]
    exact cN' (by decide) (finF g hK)
end LOAD2
