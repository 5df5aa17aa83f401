/-! moves and pulls of a minute, barge by barge -/
def stM (R : Nat → Int32) (b : Nat) : Nat → Int32 := if sails R b then mvR R b else R
section LOOPS1
variable {i : Nat} {M M' : TM} {r c T k : Nat} {R R' : Nat → Int32} {K : Int32 → TM → Prop} {KV : TM → Prop} {p q u s v : Int32} {b d o f j a t x : Nat} {l : List Nat}
theorem sO_id (h : og R o f = v) : sO R o f v = R := by unfold sO; rw [← h]; exact up_id _ _
theorem c_ready (w : WF T R) (h : RelC c M R) (hb : b < nb R) (ho : o < no R) (h4 : og R o 4 = 1) (e5 : og R o 5 = nI b) (hK : ∀ M', FrC c M M' → RelC c M' (sO R o 4 2) → KV M') : f_X1_unqueue (c + 21 + 2 * b) (nI o) (u2 M (c + 31 + o) 6 2) KV := by
  have n5 := w.nb5
  have n30 := w.no30
  obtain ⟨l, q1, q2, q3⟩ := h.2.2.2.2.1 b hb
  refine c_unqueue (l := l) (qlen4 w hb q1) (by omega) (fun x hx => by have := ((q1.2 x).1 hx).1; omega) (by rw [u2_n (by omega)]; exact q2) (fun i hi => by rw [u2_n (by omega)]; exact q3 i hi) (fun M' m1 m2 m3 m4 => ?_)
  have f1 : ∀ i, i ≠ c + 31 + o → i ≠ c + 21 + 2 * b → i ≠ c + 21 + 2 * b + 1 → M' i = M i := fun i h1 h2 h3 => by rw [m1 i h2 h3, u2_n h1]
  refine hK M' (fun i hi => f1 i (by omega) (by omega) (by omega)) ?_
  refine h.leave (R' := sO R o 4 2) w ho hb e5 (fun i _ h2 => sO_i h2 (by decide)) (sO_i (by omega) (by decide)) (sO_i (by omega) (by decide)) (fun j hj => ⟨sO_i (by omega) (by decide), sO_i (by omega) (by decide)⟩) (fun j hj => ⟨sO_i (by omega) (by decide), sO_i (by omega) (by decide)⟩) (by rw [sO_s]; decide) (fun i h0 h1 h2 h3 => f1 i h1 h2 h3) (fun f hf => by rw [m2 f (by omega), u2_n (by omega)]) (fun R' r1 r2 r3 => ⟨_, q1.del r1 r2 r3, m3, m4⟩) ?_ ?_
  · unfold Sc
    rw [f1 c (by omega) (by omega) (by omega), show cIn (sO R o 4 2) 3 = cIn R 3 by
      unfold cIn
      rw [sO_no (by decide)]
      refine cn_congr _ (fun k hk => ?_)
      by_cases e : k = o
      · subst e; rw [sO_s, h4]; decide
      · rw [sO_x e (by decide) (by decide)]]
    rw [sO_i (i := 0) (by omega) (by decide), sO_i (i := 1) (by omega) (by decide), sO_i (i := 2) (by omega) (by decide), sO_i (i := 3) (by omega) (by decide), sO_i (i := 4) (by omega) (by decide), sO_i (i := 5) (by omega) (by decide), sO_i (i := 6) (by omega) (by decide), sO_i (i := 7) (by omega) (by decide)]
    exact h.1
  · have hO := h.2.2.2.2.2 o ho
    unfold Or at hO ⊢
    rw [sO_s, sO_f (j := 0) (by decide), sO_f (j := 1) (by decide), sO_f (j := 2) (by decide), sO_f (j := 3) (by decide), sO_f (j := 5) (by decide), sO_f (j := 6) (by decide), sO_f (j := 7) (by decide), m1 _ (by omega) (by omega), u2_s, u2_f (by decide), u2_f (by decide), u2_f (by decide), u2_f (by decide), u2_f (by decide), u2_f (by decide), u2_f (by decide)]
    exact ⟨hO.1, hO.2.1, hO.2.2.1, hO.2.2.2.1, hO.2.2.2.2.1, hO.2.2.2.2.2.1, rfl, hO.2.2.2.2.2.2.2⟩
theorem c_draw (w : WF T R) (h : RelC c M R) (hb : b < nb R) (ho : o < no R) (h4 : og R o 4 = 1) (e5 : og R o 5 = nI b) (hK : ∀ M', FrC c M M' → RelC c M' (drawR R o) → KV M') : f_X2_pull_L36 c (c + 21 + 2 * b) (c + 31 + o) q KV (nI o) M := by
  unfold f_X2_pull_L36
  have hO := h.2.2.2.2.2 o ho
  obtain ⟨_, _, _, _, _, _, h6, _, _, _⟩ := w.2.2.1 o ho
  rw [hO.2.2.2.2.2.1]
  unfold drawR at hK
  refine ⟨fun c1 => ?_, fun c1 => ?_⟩
  · rw [if_neg (by rw [c1]; decide)] at hK
    exact hK M (FrC.refl _ _) h
  · have c1 : og R o 6 = 1 := h6.resolve_left c1
    rw [if_pos c1] at hK
    intro M3 e3
    rw [hO.2.2.2.1] at e3
    have m3 : M3 (c + 31 + o) 3 = og R o 7 - 1 := by rw [e3, u2_s]
    have r3 : RelC c M3 (sO R o 7 (og R o 7 - 1)) := by
      refine h.ord1 w ho (by decide) (by decide) (by decide) (by decide) (fun i hi => by rw [e3, u2_n hi]) ?_
      unfold Or at hO ⊢
      rw [sO_s, sO_f (j := 0) (by decide), sO_f (j := 1) (by decide), sO_f (j := 2) (by decide), sO_f (j := 3) (by decide), sO_f (j := 4) (by decide), sO_f (j := 5) (by decide), sO_f (j := 6) (by decide), e3, u2_s, u2_f (by decide), u2_f (by decide), u2_f (by decide), u2_f (by decide), u2_f (by decide), u2_f (by decide), u2_f (by decide)]
      exact ⟨hO.1, hO.2.1, hO.2.2.1, rfl, hO.2.2.2.2⟩
    have fr : FrC c M M3 := by rw [e3]; exact FrC.u2 (by omega) (by have := w.no30; omega)
    rw [m3]
    refine ⟨fun c2 => ?_, fun c2 => ?_⟩
    · rw [if_neg c2] at hK
      exact hK M3 fr r3
    · rw [if_pos c2] at hK
      intro M5 e5'
      subst e5'
      refine c_ready (w.ord1 ho (Or.inr rfl)) r3 (by unfold nb; rw [sO_i (by omega) (by decide)]; exact hb) (by rw [sO_no (by decide)]; exact ho) (by rw [sO_f (by decide)]; exact h4) (by rw [sO_f (by decide)]; exact e5) (fun M' f' h' => hK M' (fr.trans f') h')
theorem c_pull (w : WF T R) (h : RelC c M R) (hb : b < nb R) (ho : o < no R) (h4 : og R o 4 = 1) (e5 : og R o 5 = nI b) (hK : ∀ M', FrC c M M' → RelC c M' (drawR (begR R b o) o) → KV M') : f_X2_pull c (c + 21 + 2 * b) (c + 31 + o) (nI o) M KV := by
  unfold f_X2_pull
  have n5 := w.nb5
  have n30 := w.no30
  have hO := h.2.2.2.2.2 o ho
  have hB := h.2.2.2.1 b hb
  rw [hO.2.2.2.2.2.1, hB.2.2.2.2.1, hO.2.1]
  unfold begR at hK
  refine ⟨fun c1 => ?_, fun c1 => ⟨fun c2 => ?_, fun c2 => ?_⟩⟩
  · rw [if_neg (fun c => c1 c.1)] at hK
    exact c_draw w h hb ho h4 e5 hK
  · rw [if_neg (fun c => c.2 c2)] at hK
    exact c_draw w h hb ho h4 e5 hK
  · rw [if_pos ⟨c1, c2⟩] at hK
    intro M8 e8 M9 e9
    have r8 : RelC c M8 (sB R b 3 (bg R b 3 + -(og R o 1))) := by
      rw [e8, Int32.sub_eq_add_neg]
      exact rel_fl w h hb
    have w8 : WF T (sB R b 3 (bg R b 3 + -(og R o 1))) := wf_fl w hb
    have no8 : no (sB R b 3 (bg R b 3 + -(og R o 1))) = no R := by unfold no; rw [show sB R b 3 (bg R b 3 + -(og R o 1)) 3 = R 3 from up_n (by omega)]
    have nb8 : nb (sB R b 3 (bg R b 3 + -(og R o 1))) = nb R := by unfold nb; rw [show sB R b 3 (bg R b 3 + -(og R o 1)) 2 = R 2 from up_n (by omega)]
    have og8 : ∀ f, f < 9 → og (sB R b 3 (bg R b 3 + -(og R o 1))) o f = og R o f := fun f hf => up_n (by omega)
    have ho8 : o < no (sB R b 3 (bg R b 3 + -(og R o 1))) := by rw [no8]; exact ho
    have r9 : RelC c M9 (sO (sB R b 3 (bg R b 3 + -(og R o 1))) o 6 1) := by
      refine r8.ord1 w8 ho8 (by decide) (by decide) (by decide) (by decide) (fun i hi => by rw [e9, u2_n hi]) ?_
      have hO8 := r8.2.2.2.2.2 o ho8
      unfold Or at hO8 ⊢
      rw [sO_s, sO_f (j := 0) (by decide), sO_f (j := 1) (by decide), sO_f (j := 2) (by decide), sO_f (j := 3) (by decide), sO_f (j := 4) (by decide), sO_f (j := 5) (by decide), sO_f (j := 7) (by decide), e9, u2_s, u2_f (by decide), u2_f (by decide), u2_f (by decide), u2_f (by decide), u2_f (by decide), u2_f (by decide), u2_f (by decide)]
      exact ⟨hO8.1, hO8.2.1, hO8.2.2.1, hO8.2.2.2.1, hO8.2.2.2.2.1, bz_1, hO8.2.2.2.2.2.2⟩
    have fr : FrC c M M9 := by rw [e9, e8]; exact (FrC.u2 (by omega) (by omega)).trans (FrC.u2 (by omega) (by omega))
    refine c_draw (w8.ord1 ho8 (Or.inl ⟨rfl, Or.inr rfl⟩)) r9 (by unfold nb; rw [sO_i (by omega) (by decide)]; exact (by rw [← nb8] at hb; exact hb)) (by rw [sO_no (by decide)]; exact ho8) (by rw [sO_f (by decide), og8 4 (by decide)]; exact h4) (by rw [sO_f (by decide), og8 5 (by decide)]; exact e5) (fun M' f' h' => hK M' (fr.trans f') h')
theorem m_draw (hr : Rw M r) (ho : o < 30) (h4 : og R o 4 = 1) (h : KV (uR M r (drawR R o))) : f_X13_pull_L56 q KV (nI o) (uR M r R) := by
  unfold f_X13_pull_L56
  refine m_ofO hr rfl (f := 6) rfl ho (by decide) ?_
  unfold drawR at h
  refine ⟨fun c1 => by rw [if_neg c1] at h; exact h, fun c1 => ?_⟩
  rw [if_pos c1] at h
  refine m_ofO hr rfl (f := 7) rfl ho (by decide) ?_
  refine m_layO hr rfl (f := 7) rfl ho (by decide) ?_
  refine m_ofO hr rfl (f := 7) rfl ho (by decide) ?_
  rw [sO_s]
  refine ⟨fun c2 => ?_, fun c2 => ?_⟩
  · refine m_layO hr rfl (f := 4) rfl ho (by decide) ?_
    rw [if_neg c2] at h
    rw [sO_id (by rw [sO_f (by decide)]; exact h4)]
    exact h
  · refine m_layO hr rfl (f := 4) rfl ho (by decide) ?_
    rw [if_pos c2] at h
    exact h
theorem m_pull (hr : Rw M r) (w : WF T R) (hb : b < nb R) (h : KV (uR M r (plR R b))) : f_X13_pull (nI b) (uR M r R) KV := by
  unfold f_X13_pull
  have n5 := w.nb5
  have n30 := w.no30
  refine m_qd hr w.ix ?_
  unfold plR at h
  rcases qd_cases w (nI b) 0 with e | ⟨o, ho, e, hbel⟩
  · rw [e] at h ⊢
    rw [if_pos rfl] at h
    exact cT rfl h
  · rw [e] at h ⊢
    rw [if_neg (nI_m1 (by omega)), nI_clamp (by omega)] at h
    refine cN (nI_m1 (by omega)) ?_
    refine m_ofO hr rfl (f := 1) rfl (by omega) (by decide) ?_
    refine m_ofO hr rfl (f := 6) rfl (by omega) (by decide) ?_
    unfold begR at h
    have b4 := (bel1 hbel).1
    refine ⟨fun c1 => ?_, fun c1 => ?_⟩
    · rw [if_neg (fun c => c1 c.1)] at h
      exact m_draw hr (by omega) b4 h
    · refine m_of hr rfl (f := 3) rfl (by omega) (by decide) ?_
      refine ⟨fun c2 => ?_, fun c2 => ?_⟩
      · rw [if_neg (fun c => c.2 c2)] at h
        exact m_draw hr (by omega) b4 h
      · rw [if_pos ⟨c1, c2⟩] at h
        refine m_add hr rfl (f := 3) rfl (by omega) (by decide) ?_
        refine m_layO hr rfl (f := 6) rfl (by omega) (by decide) ?_
        refine m_draw hr (by omega) ?_ h
        rw [sO_f (by decide), show og (sB R b 3 (bg R b 3 + -(og R o 1))) o 4 = og R o 4 from up_n (by omega)]
        exact b4
/-- folds over barges -/
theorem foB (w : WF T R) {g : (Nat → Int32) → Nat → Nat → Int32} (hg : ∀ R b, WF T R → b < nb R → WF T (g R b) ∧ ∀ j, j < 72 → j < 4 ∨ 8 ≤ j → g R b 1 = R 1 ∧ g R b 2 = R 2 ∧ g R b 3 = R 3) : ∀ k, k ≤ nb R → WF T (fo (fun b R => g R b) k R) ∧ fo (fun b R => g R b) k R 1 = R 1 ∧ fo (fun b R => g R b) k R 2 = R 2 ∧ fo (fun b R => g R b) k R 3 = R 3 := by
  intro k
  induction k with
  | zero => intro _; exact ⟨w, rfl, rfl, rfl⟩
  | succ k ih =>
    intro hk
    obtain ⟨i1, i2, i3, i4⟩ := ih (by omega)
    obtain ⟨g1, g2⟩ := hg (fo (fun b R => g R b) k R) k i1 (by unfold nb at hk ⊢; rw [i3]; omega)
    have g3 := g2 0 (by decide) (by decide)
    exact ⟨g1, by show g _ k 1 = _; rw [g3.1, i2], by show g _ k 2 = _; rw [g3.2.1, i3], by show g _ k 3 = _; rw [g3.2.2, i4]⟩
theorem stM_w (w : WF T R) (hb : b < nb R) : WF T (stM R b) := by
  unfold stM
  split
  · rename_i h; exact wf_move w hb h
  · exact w
theorem stM_i (h : i < 72 ∨ 107 ≤ i) (hb : b < 5) : stM R b i = R i := by
  unfold stM
  split
  · exact mv_id (by omega)
  · rfl
theorem foM (w : WF T R) : ∀ k, k ≤ nb R → WF T (fo (fun b R => stM R b) k R) ∧ fo (fun b R => stM R b) k R 1 = R 1 ∧ fo (fun b R => stM R b) k R 2 = R 2 ∧ fo (fun b R => stM R b) k R 3 = R 3 := foB w (fun R b w hb => ⟨stM_w w hb, fun j _ _ => by have := w.nb5; exact ⟨stM_i (by omega) (by omega), stM_i (by omega) (by omega), stM_i (by omega) (by omega)⟩⟩)
theorem foP (w : WF T R) : ∀ k, k ≤ nb R → WF T (fo (fun b R => plR R b) k R) ∧ fo (fun b R => plR R b) k R 1 = R 1 ∧ fo (fun b R => plR R b) k R 2 = R 2 ∧ fo (fun b R => plR R b) k R 3 = R 3 := foB w (fun R b w hb => ⟨wf_pull w hb, fun j _ _ => ⟨plR_s w hb (by decide), plR_s w hb (by decide), plR_s w hb (by decide)⟩⟩)
theorem c_moveAll (w : WF T R) (h : RelC c M R) (hK : ∀ M', FrC c M M' → RelC c M' (fo (fun b R => stM R b) (nb R) R) → KV M') : f_X2_moveBarges c M KV := by
  unfold f_X2_moveBarges
  have n5 := w.nb5
  refine ⟨_, inv_loop (fun n (s : TM) k => f_X2_moveBarges_L2 c KV n (nI k) s) (fun k s => FrC c M s ∧ RelC c s (fo (fun b R => stM R b) k R)) (nb R) (fun n s hs => ?_) (fun n s k hk hs hL => ?_) (nb R) 0 M (Nat.zero_add _) ⟨FrC.refl _ _, h⟩⟩
  · obtain ⟨w', f1, f2, f3⟩ := foM w (nb R) (Nat.le_refl _)
    rw [f_X2_moveBarges_L2, hs.2.1.2.1, f2, w.1.1.2.1.1]
    exact cT' (nI_le (Nat.le_refl _) (by omega)) (hK s hs.1 hs.2)
  · obtain ⟨w', f1, f2, f3⟩ := foM w k (by omega)
    obtain ⟨hs1, hs2⟩ := hs
    rw [f_X2_moveBarges_L2, hs2.1.2.1, f2, w.1.1.2.1.1]
    have hk' : k < nb (fo (fun b R => stM R b) k R) := by unfold nb; rw [f2]; exact hk
    refine cN' (nI_ge hk (by omega)) ⟨vp_in_nI (by omega) (by decide), ?_⟩
    rw [nI_clamp (by omega), nI_1]
    refine c_underWay hs2 hk' ?_
    have e : fo (fun b R => stM R b) (k + 1) R = if sails (fo (fun b R => stM R b) k R) k then mvR (fo (fun b R => stM R b) k R) k else fo (fun b R => stM R b) k R := rfl
    refine bF (fun c1 => ⟨vp_in_nI (by omega) (by decide), ?_⟩) (fun c1 => hL s ⟨hs1, ?_⟩)
    · refine c_move w' hs2 hk' c1 (fun M' f' h' => hL M' ⟨hs1.trans f', ?_⟩)
      rw [e, if_pos c1]
      exact h'
    · rw [e, if_neg (by rw [c1]; decide)]
      exact hs2
theorem m_moveAll (hr : Rw M r) (w : WF T R) (h : ∃ n, f_X13_passMinute_L47 K n 0 (uR M r (fo (fun b R => stM R b) (nb R) R))) : ∃ n, f_X13_passMinute_L16 K n 0 (uR M r R) := by
  have n5 := w.nb5
  refine ⟨_, inv_loop (fun n (s : TM) k => f_X13_passMinute_L16 K n (nI k) s) (fun k s => s = uR M r (fo (fun b R => stM R b) k R)) (nb R) (fun n s hs => ?_) (fun n s k hk hs hL => ?_) (nb R) 0 _ (Nat.zero_add _) rfl⟩
  · obtain ⟨w', f1, f2, f3⟩ := foM w (nb R) (Nat.le_refl _)
    subst hs
    rw [f_X13_passMinute_L16, hr.nb w'.ix]
    refine ⟨hr.v _, vv2, cT' ?_ h⟩
    rw [show nb (fo (fun b R => stM R b) (nb R) R) = nb R by show (fo (fun b R => stM R b) (nb R) R 2).toNatClampNeg = _; rw [f2]; rfl]
    exact nI_le (Nat.le_refl _) (by omega)
  · obtain ⟨w', f1, f2, f3⟩ := foM w k (by omega)
    subst hs
    have e2 : nb (fo (fun b R => stM R b) k R) = nb R := by show (fo (fun b R => stM R b) k R 2).toNatClampNeg = _; rw [f2]; rfl
    rw [f_X13_passMinute_L16, hr.nb w'.ix, e2]
    refine ⟨hr.v _, vv2, cN' (nI_ge hk (by omega)) ?_⟩
    refine m_sails hr rfl (by omega) ?_
    rw [nI_1]
    have e : fo (fun b R => stM R b) (k + 1) R = if sails (fo (fun b R => stM R b) k R) k then mvR (fo (fun b R => stM R b) k R) k else fo (fun b R => stM R b) k R := rfl
    refine bF (fun c1 => ?_) (fun c1 => hL _ (by rw [e, if_neg (by rw [c1]; decide)]))
    refine m_move hr w' (by rw [e2]; exact hk) c1 (hL _ (by rw [e, if_pos c1]))
theorem c_pullAll (w : WF T R) (h : RelC c M R) (hK : ∀ M', FrC c M M' → RelC c M' (fo (fun b R => plR R b) (nb R) R) → KV M') : f_X2_pullNoodles c M KV := by
  unfold f_X2_pullNoodles
  have n5 := w.nb5
  refine ⟨_, inv_loop (fun n (s : TM) k => f_X2_pullNoodles_L2 c KV n (nI k) s) (fun k s => FrC c M s ∧ RelC c s (fo (fun b R => plR R b) k R)) (nb R) (fun n s hs => ?_) (fun n s k hk hs hL => ?_) (nb R) 0 M (Nat.zero_add _) ⟨FrC.refl _ _, h⟩⟩
  · obtain ⟨w', f1, f2, f3⟩ := foP w (nb R) (Nat.le_refl _)
    rw [f_X2_pullNoodles_L2, hs.2.1.2.1, f2, w.1.1.2.1.1]
    exact cT' (nI_le (Nat.le_refl _) (by omega)) (hK s hs.1 hs.2)
  · obtain ⟨w', f1, f2, f3⟩ := foP w k (by omega)
    obtain ⟨hs1, hs2⟩ := hs
    rw [f_X2_pullNoodles_L2, hs2.1.2.1, f2, w.1.1.2.1.1]
    have hk' : k < nb (fo (fun b R => plR R b) k R) := by unfold nb; rw [f2]; exact hk
    have n30 := w'.no30
    refine cN' (nI_ge hk (by omega)) ⟨vp_in_nI (by omega) (by decide), ?_⟩
    rw [nI_clamp (by omega), nI_1]
    refine c_queuedAt w' hs2 hk' ?_
    refine c_hasOrder w' hs2 ?_
    have e : fo (fun b R => plR R b) (k + 1) R = plR (fo (fun b R => plR R b) k R) k := rfl
    have e2 : ∀ Q : Nat → Int32, plR Q k = if qd Q (nI k) 0 = -1 then Q else drawR (begR Q k (qd Q (nI k) 0).toNatClampNeg) (qd Q (nI k) 0).toNatClampNeg := fun _ => rfl
    rcases qd_cases w' (nI k) 0 with eq | ⟨o, ho, eq, hbel⟩
    · rw [eq, inR_m1]
      refine bF (fun c => by cases c) (fun _ => hL s ⟨hs1, ?_⟩)
      rw [e, e2, if_pos eq]
      exact hs2
    · rw [eq, inR_nI ho (by omega), nI_clamp (by omega)]
      refine bF (fun _ => ⟨vp_in_nI (by omega) (by decide), vp_in_nI (by omega) (by decide), ?_⟩) (fun c => by cases c)
      refine c_pull w' hs2 hk' ho (bel1 hbel).1 (bel1 hbel).2 (fun M' f' h' => hL M' ⟨hs1.trans f', ?_⟩)
      rw [e, e2, eq, if_neg (nI_m1 (by omega)), nI_clamp (by omega)]
      exact h'
theorem m_pullAll (hr : Rw M r) (w : WF T R) (h : ∃ n, f_X13_passMinute_L72 K n 0 0 (uR M r (fo (fun b R => plR R b) (nb R) R))) : ∃ n, f_X13_passMinute_L47 K n 0 (uR M r R) := by
  have n5 := w.nb5
  refine ⟨_, inv_loop (fun n (s : TM) k => f_X13_passMinute_L47 K n (nI k) s) (fun k s => s = uR M r (fo (fun b R => plR R b) k R)) (nb R) (fun n s hs => ?_) (fun n s k hk hs hL => ?_) (nb R) 0 _ (Nat.zero_add _) rfl⟩
  · obtain ⟨w', f1, f2, f3⟩ := foP w (nb R) (Nat.le_refl _)
    subst hs
    rw [f_X13_passMinute_L47, hr.nb w'.ix]
    refine ⟨hr.v _, vv2, cT' ?_ h⟩
    rw [show nb (fo (fun b R => plR R b) (nb R) R) = nb R by show (fo (fun b R => plR R b) (nb R) R 2).toNatClampNeg = _; rw [f2]; rfl]
    exact nI_le (Nat.le_refl _) (by omega)
  · obtain ⟨w', f1, f2, f3⟩ := foP w k (by omega)
    subst hs
    have e2 : nb (fo (fun b R => plR R b) k R) = nb R := by show (fo (fun b R => plR R b) k R 2).toNatClampNeg = _; rw [f2]; rfl
    rw [f_X13_passMinute_L47, hr.nb w'.ix, e2]
    refine ⟨hr.v _, vv2, cN' (nI_ge hk (by omega)) ?_⟩
    rw [nI_1]
    exact m_pull hr w' (by rw [e2]; exact hk) (hL _ rfl)
end LOOPS1
