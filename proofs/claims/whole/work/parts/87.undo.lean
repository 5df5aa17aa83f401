/-! undo, saveSnapshot, restoreSnapshot -/
section UNDO
variable {c' : Bool} {i : Nat} {M M1 M' S S' : TM} {T U : Nat} {K : TM → Prop} {KI KL : Int32 → TM → Prop} {KO : Option Nat → TM → Prop} {KV : TM → Prop} {X : String → TM → Prop} {p q u v r2 r4 : Int32} {R R' : Nat → Int32} {a b c d e f j k m x' h nx ci di r o t n' : Nat}
theorem and_1 (x : Int32) : x &&& 1 = nI (x.toBitVec.toNat % 2) := by
  apply Int32.toBitVec_inj.1
  apply BitVec.eq_of_toNat_eq
  rw [Int32.toBitVec_and, BitVec.toNat_and]
  show x.toBitVec.toNat &&& 1 = _
  rw [Nat.and_one_is_mod]
  show _ = (BitVec.ofNat 32 (x.toBitVec.toNat % 2)).toNat
  rw [BitVec.toNat_ofNat, Nat.mod_eq_of_lt (a := x.toBitVec.toNat % 2) (by omega)]
theorem bz_b (x : Int32) : ∃ b : Bool, bz x = bi b := by
  unfold bz
  rw [and_1]
  rcases Nat.mod_two_eq_zero_or_one x.toBitVec.toNat with h | h
  · exact ⟨false, by rw [h]; rfl⟩
  · exact ⟨true, by rw [h]; rfl⟩
theorem c_back (hc : c = 576 ∨ c = 637) (h1 : M 25 1 = nI nx) (h2 : M 25 2 = nI (h + 1)) (hn : nx ≤ 8) (h8 : h + 1 ≤ 8) (w : WF T R) (rc : RelC (27 + 61 * ((nx + 7) % 8)) M R) (hK : ∀ M', (∀ i, i ≠ 25 → (i < c ∨ c + 61 ≤ i) → M' i = M i) → M' 25 1 = nI ((nx + 7) % 8) → M' 25 2 = nI h → RelC c M' R → KV M') : f_X5_takeBack c M KV := by
  have body : ∀ z : Int32, z = nI ((nx + 7) % 8) → f_X5_takeBack_L46 c KV z M := fun z ez => by
    unfold f_X5_takeBack_L46
    subst ez
    intro M3 e3
    have hm : (nx + 7) % 8 < 8 := Nat.mod_lt _ (by decide)
    have e31 : M3 25 1 = nI ((nx + 7) % 8) := by rw [e3, u2_s]
    have e32 : M3 25 2 = nI (h + 1) := by rw [e3, u2_f (by decide)]; exact h2
    rw [e31]
    refine ⟨vp_in_nI hm (by decide), ?_⟩
    rw [nI_clamp (by omega)]
    have rc3 : RelC (27 + 61 * ((nx + 7) % 8)) M3 R := rc.frame (fun k k1 k2 => by rw [e3, u2_n (by omega)]) w.nb5 w.no30
    refine c_copy w rc3 (by omega) (fun M5 f5 r5 => ?_)
    have e51 : M5 25 1 = nI ((nx + 7) % 8) := by rw [f5 25 (by omega)]; exact e31
    have e52 : M5 25 2 = nI (h + 1) := by rw [f5 25 (by omega)]; exact e32
    rw [e52, nI_pred]
    intro M6 e6
    refine hK M6 (fun i i1 i2 => by rw [e6, u2_n i1, f5 i i2, e3, u2_n i1]) (by rw [e6, u2_f (by decide)]; exact e51) (by rw [e6, u2_s]) (r5.frame (fun k k1 k2 => by rw [e6, u2_n (by omega)]) w.nb5 w.no30)
  unfold f_X5_takeBack
  rw [h1, h2]
  refine cT' (nI_le (a := 1) (by omega) (by omega)) ⟨fun c1 => ?_, fun c1 => ⟨fun c2 => ?_, fun c2 => absurd (nI_le (b := 8) hn (by decide)) c2⟩⟩
  · have n0 : nx = 0 := by
      refine Decidable.byContradiction (fun hne => ?_)
      exact absurd c1 (nI_nlt (b := 1) (by omega) (by omega))
    subst n0
    unfold f_X5_takeBack_L30
    exact body _ (by decide)
  · have n1 : 1 ≤ nx := by
      refine Decidable.byContradiction (fun hne => c1 ?_)
      rw [show nx = 0 by omega]
      decide
    refine body _ ?_
    rw [show nx = nx - 1 + 1 by omega, nI_pred]
    congr 1
    omega
theorem q_undo (g : Inv T M) (hK : ∀ M', Inv T M' → K M') : f_L_undo M (fun r2 M1 => f_X13_undo M1 (fun r4 M3 => LawE K r2 r4 M3)) := by
  unfold f_L_undo f_X12_undo
  obtain ⟨ci, di, nx, h, g1, g2, g3, g4, g5⟩ := id g
  obtain ⟨v1, v2, v3, v4⟩ := g1.in11
  obtain ⟨a1, a2, a3, a4, a5, a6⟩ := id g2
  obtain ⟨q1, q2, q3, q4, q5, q6, q7⟩ := id g1
  have w := q6
  have n5 := w.nb5
  have n30 := w.no30
  unfold f_X12_requireState
  rw [a2]
  refine ⟨fun c1 => cT rfl ⟨rfl, ?_⟩, fun c1 => cN (by decide) ⟨v1, ?_⟩⟩
  · show f_X13_undo M (fun r4 M3 => LawE K 1 r4 M3)
    unfold f_X13_undo
    rw [a5]
    refine cT' c1 ?_
    unfold f_X13_undo_L13
    refine m_lacks (c' := false) rfl ?_
    exact cN' (by decide) (finF g hK)
  · rw [v2]
    have h1 : 1 ≤ h := by
      refine Decidable.byContradiction (fun hne => c1 ?_)
      rw [show h = 0 by omega]
      decide
    obtain ⟨l, rfl⟩ : ∃ l, h = l + 1 := ⟨h - 1, by omega⟩
    obtain ⟨b1, b2, b3⟩ := a6 l (by omega)
    have sl : slot nx (l + 1) l = 27 + 61 * ((nx + 7) % 8) := by unfold slot; omega
    rw [sl] at b1
    refine c_back v4 a1 a2 a3 a4 b2 b1 (fun M1 m1 m2 m3 m4 => ?_)
    rw [m3]
    intro M2 e2
    have f2 : ∀ i, i ≠ 25 → i ≠ 710 → (i < 27 + 61 * ci ∨ 27 + 61 * ci + 61 ≤ i) → M2 i = M i := fun i i1 i3 i2 => by rw [e2, u2_n i3, m1 i i1 i2]
    have e9 : M2 699 = M 699 := f2 699 (by decide) (by decide) (by omega)
    show f_X13_undo M2 (fun r4 M3 => LawE K 0 r4 M3)
    unfold f_X13_undo
    rw [e9, a5]
    refine cN' c1 ?_
    unfold f_X13_undo_L13
    refine m_lacks (c' := true) rfl ?_
    refine cT' rfl ?_
    intro M3 e3
    rw [u2_f (by decide), e9, a5, nI_pred] at e3
    refine m_copy (k0 := l) (k2 := 0) (by rw [e3, u2_s]) rfl (by omega) (by decide) (by decide) (by decide) (fun M4 n1 n2 n3 => ?_)
    have k1 : ∀ i, i ≠ 25 → i ≠ 699 → i ≠ 700 → i ≠ 710 → (i < 27 + 61 * ci ∨ 27 + 61 * ci + 61 ≤ i) → M4 i = M i := fun i i1 i2 i3 i4 i5 => by rw [n1 i i3, e3, u2_n i2, u2_n i2, f2 i i1 i4 i5]
    have k9 : ∀ j, j ≠ 7 → j ≠ 8 → M4 699 j = M 699 j := fun j j1 j2 => by rw [n1 699 (by decide), e3, u2_f j1, u2_f j2, e9]
    have k97 : M4 699 7 = nI l := by rw [n1 699 (by decide), e3, u2_s]
    have k98 : M4 699 8 = 0 := by rw [n1 699 (by decide), e3, u2_f (by decide), u2_s]; rfl
    have k25 : M4 25 = M1 25 := by rw [n1 25 (by decide), e3, u2_n (by decide), u2_n (by decide), e2, u2_n (by decide)]
    have rq : REq (hrow M l) (M4 700) := fun j hj => by
      have := n2 j hj
      rw [Nat.mul_zero, Nat.zero_add] at this
      rw [this, e3, u2_n (by decide), u2_n (by decide), f2 705 (by decide) (by decide) (by omega)]
      rfl
    have kc : ∀ i, 27 + 61 * ci ≤ i → i < 27 + 61 * ci + 61 → M4 i = M1 i := fun i i1 i2 => by rw [n1 i (by omega), e3, u2_n (by omega), u2_n (by omega), e2, u2_n (by omega)]
    refine lawE k98 (fun _ => by rw [k97, n1 710 (by decide), e3, u2_n (by decide), u2_n (by decide), e2, u2_s]) (hK M4 ⟨ci, di, (nx + 7) % 8, l, ?_, ?_, ?_, ?_, ?_⟩)
    · unfold Cur
      rw [k1 0 (by decide) (by decide) (by decide) (by decide) (by omega), k9 6 (by decide) (by decide)]
      exact ⟨q1, q2, q3, q4, (m4.frame kc b2.nb5 b2.no30).row b2 rq, b2.row rq, b3.row b2 rq⟩
    · refine ⟨by rw [k25]; exact m2, by rw [k25]; exact m3, by omega, by omega, k97, fun k hk => ?_⟩
      obtain ⟨d1, d2, d3⟩ := a6 k (by omega)
      have es : slot ((nx + 7) % 8) l k = slot nx (l + 1) k := by unfold slot; omega
      have sl2 := slot_lt nx (l + 1) k
      have eh : hrow M4 k = hrow M k := by unfold hrow; rw [k1 705 (by decide) (by decide) (by decide) (by decide) (by omega)]
      rw [es, eh]
      exact ⟨d1.frame (fun i i1 i2 => k1 i (by omega) (by omega) (by omega) (by omega) (by omega)) d2.nb5 d2.no30, d2, d3⟩
    · exact g3.fr (by rw [k1 0 (by decide) (by decide) (by decide) (by decide) (by omega)]) (fun i i1 i2 => k1 i (by omega) (by omega) (by omega) (by omega) (by omega)) (k9 11 (by decide) (by decide)) (k1 704 (by decide) (by decide) (by decide) (by decide) (by omega))
    · refine g4.fr ?_ (k1 2 (by decide) (by decide) (by decide) (by decide) (by omega)) ⟨k9 15 (by decide) (by decide), k9 9 (by decide) (by decide), k9 22 (by decide) (by decide)⟩ (k1 707 (by decide) (by decide) (by decide) (by decide) (by omega))
      rw [k1 1 (by decide) (by decide) (by decide) (by decide) (by omega)]
      exact ⟨rfl, rfl, rfl⟩
    · exact g5.fr (by rw [k1 0 (by decide) (by decide) (by decide) (by decide) (by omega)]) (k1 698 (by decide) (by decide) (by decide) (by decide) (by omega)) (k9 13 (by decide) (by decide)) (k1 706 (by decide) (by decide) (by decide) (by decide) (by omega))
theorem q_saveSnapshot (g : Inv T M) (hK : ∀ M', Inv T M' → K M') : f_X12_saveSnapshot M (fun M1 => f_X13_saveSnapshot M1 (fun M2 => K M2)) := by
  unfold f_X12_saveSnapshot
  obtain ⟨ci, di, nx, h, g1, g2, g3, g4, g5⟩ := id g
  obtain ⟨v1, v2, v3, v4⟩ := g1.in11
  obtain ⟨q1, q2, q3, q4, q5, q6, q7⟩ := id g1
  have w := q6
  refine ⟨v1, ?_⟩
  rw [v2]
  refine c_copy w q5 (by omega) (fun M1 f1 r1 => ?_)
  intro M2 e2
  have k2 : ∀ i, i ≠ 0 → (i < 515 ∨ 576 ≤ i) → M2 i = M i := fun i i1 i2 => by rw [e2, u2_n i1, f1 i i2]
  have k0 : ∀ x, x ≠ 4 → M2 0 x = M 0 x := fun x hx => by rw [e2, u2_f hx, f1 0 (by omega)]
  have k04 : M2 0 4 = 1 := by rw [e2, u2_s]
  unfold f_X13_saveSnapshot
  intro M3 e3
  refine m_copyRow rfl rfl (Nat.le_refl _) (Nat.le_refl _) (by decide) (by decide) (fun M4 n1 n2 => ?_)
  intro M5 e5
  have k5 : ∀ i, i ≠ 0 → i ≠ 699 → i ≠ 704 → (i < 515 ∨ 576 ≤ i) → M5 i = M i := fun i i1 i2 i3 i4 => by rw [e5, u2_n i2, n1 i i3, e3, u2_n i2, k2 i i1 i4]
  have k50 : M5 0 = M2 0 := by rw [e5, u2_n (by decide), n1 0 (by decide), e3, u2_n (by decide)]
  have k9 : ∀ j, j ≠ 8 → j ≠ 11 → M5 699 j = M 699 j := fun j j1 j2 => by rw [e5, u2_f j2, n1 699 (by decide), e3, u2_f j1, k2 699 (by decide) (by decide)]
  have k911 : M5 699 11 = 1 := by rw [e5, u2_s]
  have k704 : M5 704 = M4 704 := by rw [e5, u2_n (by decide)]
  have rq : REq (M 700) (M5 704) := by
    rw [k704]
    have : M3 700 = M 700 := by rw [e3, u2_n (by decide), k2 700 (by decide) (by decide)]
    rw [← this]
    exact n2
  refine hK M5 ⟨ci, di, nx, h, ?_, ?_, ⟨by rw [k50, k04, k911], fun _ => ?_⟩, ?_, ?_⟩
  · unfold Cur
    rw [k50, k0 5 (by decide), k0 6 (by decide), k9 6 (by decide) (by decide), k5 700 (by decide) (by decide) (by decide) (by decide)]
    exact ⟨q1, q2, q3, q4, q5.frame (fun i i1 i2 => k5 i (by omega) (by omega) (by omega) (by omega)) w.nb5 w.no30, q6, q7⟩
  · exact g2.fr (k5 25 (by decide) (by decide) (by decide) (by decide)) (fun i i1 i2 => k5 i (by omega) (by omega) (by omega) (by omega)) (k9 7 (by decide) (by decide)) (k5 705 (by decide) (by decide) (by decide) (by decide))
  · have r5 : RelC 515 M5 (M 700) := r1.frame (fun i i1 i2 => by rw [e5, u2_n (by omega), n1 i (by omega), e3, u2_n (by omega), e2, u2_n (by omega)]) w.nb5 w.no30
    exact ⟨r5.row w rq, w.row rq, q7.row w rq⟩
  · refine g4.fr ?_ (k5 2 (by decide) (by decide) (by decide) (by decide)) ⟨k9 15 (by decide) (by decide), k9 9 (by decide) (by decide), k9 22 (by decide) (by decide)⟩ (k5 707 (by decide) (by decide) (by decide) (by decide))
    rw [k5 1 (by decide) (by decide) (by decide) (by decide)]
    exact ⟨rfl, rfl, rfl⟩
  · exact g5.fr (by rw [k50, k0 8 (by decide)]) (k5 698 (by decide) (by decide) (by decide) (by decide)) (k9 13 (by decide) (by decide)) (k5 706 (by decide) (by decide) (by decide) (by decide))
theorem q_restoreSnapshot (g : Inv T M) (hK : ∀ M', Inv T M' → K M') : f_L_restoreSnapshot M (fun r2 M1 => f_X13_restoreSnapshot M1 (fun r4 M3 => LawE K r2 r4 M3)) := by
  unfold f_L_restoreSnapshot f_X12_restoreSnapshot
  obtain ⟨ci, di, nx, h, g1, g2, g3, g4, g5⟩ := id g
  obtain ⟨v1, v2, v3, v4⟩ := g1.in11
  obtain ⟨q1, q2, q3, q4, q5, q6, q7⟩ := id g1
  obtain ⟨a1, a2, a3, a4, a5, a6⟩ := id g2
  obtain ⟨bs, hbs⟩ := bz_b (M 0 4)
  have hbs9 : bz (M 699 11) = bi bs := by rw [← g3.1]; exact hbs
  unfold f_X12_requireState
  rw [hbs]
  refine bT (fun hb => ⟨v1, ?_⟩) (fun hb => ⟨rfl, ?_⟩)
  · subst hb
    rw [v2]
    obtain ⟨r0, w, nb'⟩ := g3.2 (by rw [hbs]; decide)
    have n5 := w.nb5
    have n30 := w.no30
    refine c_copy w r0 (by omega) (fun M1 f1 r1 => ?_)
    unfold f_X5_clear
    intro M2 e2
    have k2 : ∀ i, i ≠ 25 → (i < 27 + 61 * ci ∨ 27 + 61 * ci + 61 ≤ i) → M2 i = M i := fun i i1 i2 => by rw [e2, u2_n i1, f1 i i2]
    have k20 : M2 0 = M 0 := k2 0 (by decide) (by omega)
    have r2' : RelC (27 + 61 * ci) M2 (M 704) := r1.frame (fun i i1 i2 => by rw [e2, u2_n (by omega)]) n5 n30
    rw [k20]
    refine ⟨v1, ?_⟩
    rw [v2, r2'.1.2.2.2.1]
    intro M3 e3
    show f_X13_restoreSnapshot M3 (fun r4 M3 => LawE K 0 r4 M3)
    unfold f_X13_restoreSnapshot
    have k3 : ∀ i, i ≠ 25 → i ≠ 710 → (i < 27 + 61 * ci ∨ 27 + 61 * ci + 61 ≤ i) → M3 i = M i := fun i i1 i2 i3 => by rw [e3, u2_n i2, k2 i i1 i3]
    have k39 : M3 699 = M 699 := k3 699 (by decide) (by decide) (by omega)
    rw [k39, hbs9]
    refine m_lacks rfl ?_
    refine cT' rfl ?_
    refine m_copyRow rfl rfl (Nat.le_refl _) (Nat.le_refl _) (by decide) (by decide) (fun M4 n1 n2 => ?_)
    intro M5 e5
    have k5 : ∀ i, i ≠ 25 → i ≠ 699 → i ≠ 700 → i ≠ 710 → (i < 27 + 61 * ci ∨ 27 + 61 * ci + 61 ≤ i) → M5 i = M i := fun i i1 i2 i3 i4 i5 => by rw [e5, u2_n i2, n1 i i3, u2_n i2, k3 i i1 i4 i5]
    have k9 : ∀ j, j ≠ 7 → j ≠ 8 → M5 699 j = M 699 j := fun j j1 j2 => by rw [e5, u2_f j1, n1 699 (by decide), u2_f j2, k39]
    have k97 : M5 699 7 = 0 := by rw [e5, u2_s]
    have k98 : M5 699 8 = 0 := by rw [e5, u2_f (by decide), n1 699 (by decide), u2_s]; rfl
    have rq : REq (M 704) (M5 700) := by
      rw [show M5 700 = M4 700 by rw [e5, u2_n (by decide)]]
      rw [u2_n (by decide), k3 704 (by decide) (by decide) (by omega)] at n2
      exact n2
    have hr5 : Rw M5 700 := Or.inl ⟨by rw [k9 6 (by decide) (by decide)]; exact q4, rfl⟩
    have r5 : RelC (27 + 61 * ci) M5 (M 704) := r2'.frame (fun i i1 i2 => by rw [e5, u2_n (by omega), n1 i (by omega), u2_n (by omega), e3, u2_n (by omega)]) n5 n30
    refine ⟨hr5.v' rfl, vv0, ?_⟩
    rw [hr5.rd' rfl (x := 0) (i := 0) rfl (by decide)]
    have k710 : M5 710 0 = M 704 0 := by rw [e5, u2_n (by decide), n1 710 (by decide), u2_n (by decide), e3, u2_s]
    refine lawE k98 (fun _ => k710.trans (rq 0 (by decide)).symm) (hK M5 ⟨ci, di, nx, 0, ?_, ?_, ?_, ?_, ?_⟩)
    · unfold Cur
      rw [k5 0 (by decide) (by decide) (by decide) (by decide) (by omega), k9 6 (by decide) (by decide)]
      exact ⟨q1, q2, q3, q4, r5.row w rq, w.row rq, nb'.row w rq⟩
    · have k25 : M5 25 = M2 25 := by rw [e5, u2_n (by decide), n1 25 (by decide), u2_n (by decide), e3, u2_n (by decide)]
      exact ⟨by rw [k25, e2, u2_f (by decide), f1 25 (by omega)]; exact a1, by rw [k25, e2, u2_s]; rfl, a3, by omega, k97, fun k hk => absurd hk (Nat.not_lt_zero _)⟩
    · exact g3.fr (by rw [k5 0 (by decide) (by decide) (by decide) (by decide) (by omega)]) (fun i i1 i2 => k5 i (by omega) (by omega) (by omega) (by omega) (by omega)) (k9 11 (by decide) (by decide)) (k5 704 (by decide) (by decide) (by decide) (by decide) (by omega))
    · refine g4.fr ?_ (k5 2 (by decide) (by decide) (by decide) (by decide) (by omega)) ⟨k9 15 (by decide) (by decide), k9 9 (by decide) (by decide), k9 22 (by decide) (by decide)⟩ (k5 707 (by decide) (by decide) (by decide) (by decide) (by omega))
      rw [k5 1 (by decide) (by decide) (by decide) (by decide) (by omega)]
      exact ⟨rfl, rfl, rfl⟩
    · exact g5.fr (by rw [k5 0 (by decide) (by decide) (by decide) (by decide) (by omega)]) (k5 698 (by decide) (by decide) (by decide) (by decide) (by omega)) (k9 13 (by decide) (by decide)) (k5 706 (by decide) (by decide) (by decide) (by decide) (by omega))
  · subst hb
    show f_X13_restoreSnapshot M (fun r4 M3 => LawE K 1 r4 M3)
    unfold f_X13_restoreSnapshot
    rw [hbs9]
    refine m_lacks rfl ?_
    exact cN' (by decide) (finF g hK)
end UNDO
