/-! minutes pass -/
section PASS2
variable {i : Nat} {M M' : TM} {r c T k : Nat} {R R' : Nat → Int32} {K : Int32 → TM → Prop} {KV : TM → Prop} {p q u s v : Int32} {b d o f j a t x m : Nat} {l : List Nat}
theorem foM_cIn (w : WF T R) : ∀ k, k ≤ nb R → cIn (fo (fun b R => stM R b) k R) 3 = cIn R 3 ∧ (fo (fun b R => stM R b) k R) 0 = R 0 := by
  have n5 := w.nb5
  intro k
  induction k with
  | zero => intro _; exact ⟨rfl, rfl⟩
  | succ k ih =>
    intro hk
    obtain ⟨i1, i2⟩ := ih (by omega)
    obtain ⟨Q, hQ⟩ : ∃ Q, Q = fo (fun b R => stM R b) k R := ⟨_, rfl⟩
    have e : fo (fun b R => stM R b) (k + 1) R = stM Q k := by rw [hQ]; rfl
    rw [← hQ] at i1 i2
    rw [e]
    have so : SOr Q (stM Q k) := ⟨stM_i (by omega) (by omega), fun o ho f hf => stM_i (by omega) (by omega)⟩
    exact ⟨by rw [so.eCIn, i1], by rw [stM_i (by omega) (by omega), i2]⟩
theorem plR_cIn (w : WF T R) (hb : b < nb R) : cIn (plR R b) 3 = cIn R 3 := by
  have n5 := w.nb5
  have n30 := w.no30
  unfold plR
  rcases qd_cases w (nI b) 0 with h | ⟨o, ho, h, hbel⟩
  · rw [if_pos h]
  · rw [h, if_neg (nI_m1 (by omega)), nI_clamp (by omega)]
    have e1 : cIn (begR R b o) 3 = cIn R 3 := by
      unfold begR
      split
      · rw [sO_cIn (by decide) (by decide)]
        have so : SOr R (sB R b 3 (bg R b 3 + -(og R o 1))) := ⟨up_n (by omega), fun o ho f hf => up_n (by omega)⟩
        exact so.eCIn _
      · rfl
    have h4 : og (begR R b o) o 4 = 1 := by
      rw [show og (begR R b o) o 4 = og R o 4 from begR_i (by omega) (by omega) (by omega)]
      exact (bel1 hbel).1
    rw [← e1]
    unfold drawR
    split
    · split
      · rw [← sO_cIn (R := begR R b o) (o := o) (f := 7) (v := og (begR R b o) o 7 - 1) (s := 3) (by decide) (by decide)]
        unfold cIn
        rw [sO_no (by decide)]
        refine cn_congr _ (fun k hk => ?_)
        by_cases e : k = o
        · subst e; rw [sO_s, sO_f (by decide), h4]; decide
        · rw [sO_x e (by decide) (by decide)]
      · exact sO_cIn (by decide) (by decide)
    · rfl
theorem foP_cIn (w : WF T R) : ∀ k, k ≤ nb R → cIn (fo (fun b R => plR R b) k R) 3 = cIn R 3 ∧ (fo (fun b R => plR R b) k R) 0 = R 0 := by
  have n5 := w.nb5
  intro k
  induction k with
  | zero => intro _; exact ⟨rfl, rfl⟩
  | succ k ih =>
    intro hk
    obtain ⟨i1, i2⟩ := ih (by omega)
    obtain ⟨w', f1, f2, f3⟩ := foP w k (by omega)
    obtain ⟨Q, hQ⟩ : ∃ Q, Q = fo (fun b R => plR R b) k R := ⟨_, rfl⟩
    have e : fo (fun b R => plR R b) (k + 1) R = plR Q k := by rw [hQ]; rfl
    rw [← hQ] at i1 i2 w' f1 f2 f3
    rw [e]
    have hk' : k < nb Q := by unfold nb at hk ⊢; rw [f2]; omega
    exact ⟨by rw [plR_cIn w' hk', i1], by rw [plR_s w' hk' (by decide), i2]⟩
/-- the stages of a minute -/
theorem min_st (w : WF T R) : ∃ R1 R2 R3, R1 = fo (fun b a => stM a b) (nb R) R ∧ R2 = fo (fun b a => plR a b) (nb R1) R1 ∧ R3 = svR R2 ∧ pmR R = upd (fo (fun o a => exR o a) (no R3) R3) 0 (fo (fun o a => exR o a) (no R3) R3 0 + 1) ∧ WF T R1 ∧ WF T R2 ∧ WF T R3 ∧ WF T (fo (fun o a => exR o a) (no R3) R3) ∧ cIn R2 3 = cIn R 3 ∧ cIn (pmR R) 3 = cIn R3 3 ∧ fo (fun o a => exR o a) (no R3) R3 0 = R 0 ∧ (fo (fun o a => exR o a) (no R3) R3) 1 = R 1 ∧ (fo (fun o a => exR o a) (no R3) R3) 2 = R 2 ∧ (fo (fun o a => exR o a) (no R3) R3) 3 = R 3 := by
  obtain ⟨w1, a1, a2, a3⟩ := foM w (nb R) (Nat.le_refl _)
  obtain ⟨c1, d1⟩ := foM_cIn w (nb R) (Nat.le_refl _)
  obtain ⟨R1, h1⟩ : ∃ Q, Q = fo (fun b a => stM a b) (nb R) R := ⟨_, rfl⟩
  rw [← h1] at w1 a1 a2 a3 c1 d1
  obtain ⟨w2, b1, b2, b3⟩ := foP w1 (nb R1) (Nat.le_refl _)
  obtain ⟨c2, d2⟩ := foP_cIn w1 (nb R1) (Nat.le_refl _)
  obtain ⟨R2, h2⟩ : ∃ Q, Q = fo (fun b a => plR a b) (nb R1) R1 := ⟨_, rfl⟩
  rw [← h2] at w2 b1 b2 b3 c2 d2
  obtain ⟨w3, e0, e1, e2, e3⟩ := foS w2 (nb R2) (Nat.le_refl _)
  obtain ⟨R3, h3⟩ : ∃ Q, Q = svR R2 := ⟨_, rfl⟩
  unfold svR at h3
  rw [← h3] at w3 e0 e1 e2 e3
  obtain ⟨w4, g0, g1, g2, g3, g4⟩ := foX w3 (no R3) (Nat.le_refl _)
  have so : SOr (fo (fun o a => exR o a) (no R3) R3) (upd (fo (fun o a => exR o a) (no R3) R3) 0 (fo (fun o a => exR o a) (no R3) R3 0 + 1)) := ⟨u0 (by decide), fun o ho f hf => u0 (by omega)⟩
  have ep : pmR R = upd (fo (fun o a => exR o a) (no R3) R3) 0 (fo (fun o a => exR o a) (no R3) R3 0 + 1) := by
    unfold pmR svR
    rw [← h1, ← h2, ← h3]
  exact ⟨R1, R2, R3, h1, h2, h3, ep, w1, w2, w3, w4, by rw [c2, c1], by rw [ep, so.eCIn, g4], by rw [g0, e0, d2, d1], by rw [g1, e1, b1, a1], by rw [g2, e2, b2, a2], by rw [g3, e3, b3, a3]⟩
theorem pm_w (w : WF T R) : WF T (pm R) ∧ (pm R) 1 = R 1 ∧ (pm R) 2 = R 2 ∧ (pm R) 3 = R 3 := by
  unfold pm
  split
  · exact ⟨w, rfl, rfl, rfl⟩
  · rename_i h
    obtain ⟨R1, R2, R3, h1, h2, h3, ep, w1, w2, w3, w4, q1, q2, q3, q4, q5, q6⟩ := min_st w
    obtain ⟨m, hm, e0⟩ := w.1.2.2.2.1
    have : m ≠ 10000 := fun e => h (by rw [e0, e]; rfl)
    rw [ep]
    exact ⟨wf_min w4 (m := m) (by omega) (by rw [q3, e0]), by rw [u0 (by decide), q4], by rw [u0 (by decide), q5], by rw [u0 (by decide), q6]⟩
theorem c_min (w : WF T R) (h : RelC c M R) (hK : ∀ M', FrC c M M' → RelC c M' (pmR R) → KV M') : f_X2_moveBarges c M (fun M6 => f_X2_pullNoodles c M6 (fun M7 => f_X2_serveOrders c M7 (fun M8 => f_X2_expireOrders c M8 (fun M9 => ∀ M10, M10 = u2 M9 c 8 ((M9 c 8) + (1 : Int32)) → KV M10)))) := by
  obtain ⟨R1, R2, R3, h1, h2, h3, ep, w1, w2, w3, w4, q1, q2, q3, q4, q5, q6⟩ := min_st w
  refine c_moveAll w h (fun M1 f1 r1 => ?_)
  rw [← h1] at r1
  refine c_pullAll w1 r1 (fun M2 f2 r2 => ?_)
  rw [← h2] at r2
  refine c_serveAll w2 r2 (fun M3 f3 r3 => ?_)
  rw [← h3] at r3
  refine c_expireAll w3 r3 (fun M4 f4 r4 => ?_)
  intro M10 e10
  subst e10
  refine hK _ (((f1.trans f2).trans f3).trans (f4.trans (FrC.u2 (by omega) (by omega)))) ?_
  rw [ep]
  exact rel_min w4 r4
theorem m_min (hr : Rw M r) (w : WF T R) (h : K (nI (cIn (pm R) 3) - nI (cIn R 3)) (uR M r (pm R))) : f_X13_passMinute (uR M r R) K := by
  unfold f_X13_passMinute
  obtain ⟨R1, R2, R3, h1, h2, h3, ep, w1, w2, w3, w4, q1, q2, q3, q4, q5, q6⟩ := min_st w
  refine ⟨hr.v _, vv0, ?_⟩
  rw [hr.rd (x := 0) (i := 0) rfl (by decide)]
  unfold pm at h
  refine ⟨fun c1 => ?_, fun c1 => ?_⟩
  · rw [if_neg c1] at h
    refine m_moveAll hr w ?_
    rw [← h1]
    refine m_pullAll hr w1 ?_
    rw [← h2]
    refine m_serveAll hr w2 ?_
    rw [← h3]
    refine m_expireAll hr w3 ?_
    refine ⟨hr.v _, vv0, vv0, ?_⟩
    intro M17 e17
    rw [hr.rd (x := 0) (i := 0) rfl (by decide), hr.c, li0, u2_uR, ← ep] at e17
    rw [e17, q1, ← q2]
    exact h
  · rw [if_pos c1, Int32.sub_self] at h
    exact h
def pmN (n : Nat) (R : Nat → Int32) : Nat → Int32 := fo (fun _ a => pm a) n R
theorem pmN_w (w : WF T R) : ∀ n, WF T (pmN n R) ∧ pmN n R 1 = R 1 ∧ pmN n R 2 = R 2 ∧ pmN n R 3 = R 3 := by
  intro n
  induction n with
  | zero => exact ⟨w, rfl, rfl, rfl⟩
  | succ n ih =>
    obtain ⟨i1, i2, i3, i4⟩ := ih
    obtain ⟨g1, g2, g3, g4⟩ := pm_w i1
    exact ⟨g1, g2.trans i2, g3.trans i3, g4.trans i4⟩
theorem pmN_stop (h : pmN k R 0 = 10000) : ∀ d, pmN (k + d) R = pmN k R := by
  intro d
  induction d with
  | zero => rfl
  | succ d ih =>
    show pm (pmN (k + d) R) = _
    rw [ih]
    unfold pm
    rw [if_pos h]
theorem c_pass (w : WF T R) (h : RelC c M R) (e1 : p = nI m) (hm : m < 1000) (hK : ∀ M', FrC c M M' → RelC c M' (pmN m R) → KV M') : f_X2_passAtMost c p M KV := by
  subst e1
  unfold f_X2_passAtMost
  refine ⟨_, inv_loop (fun n (s : TM) k => f_X2_passAtMost_L2 c (nI m) KV n (nI m) (nI k) s) (fun k s => FrC c M s ∧ RelC c s (pmN k R)) m (fun n s hs => ?_) (fun n s k hk hs hL => ?_) m 0 M (Nat.zero_add _) ⟨FrC.refl _ _, h⟩⟩
  · rw [f_X2_passAtMost_L2]
    exact cT' (nI_le (Nat.le_refl _) (by omega)) (hK s hs.1 hs.2)
  · obtain ⟨w', f1, f2, f3⟩ := pmN_w w k
    obtain ⟨hs1, hs2⟩ := hs
    rw [f_X2_passAtMost_L2]
    refine cN' (nI_ge hk (by omega)) ?_
    unfold f_X2_canPass
    obtain ⟨mi, hmi, e0⟩ := w'.1.2.2.2.1
    rw [hs2.1.2.2.2.1, e0, nI_1, nI_1]
    have e : pmN (k + 1) R = pm (pmN k R) := rfl
    unfold pm at e
    refine ⟨fun c1 => cT' rfl ?_, fun c1 => cN' (by decide) ?_⟩
    · have hmm : mi = 10000 := by
        have := (nI_ltI (a := 10000) (b := mi + 1) (by decide) (by omega)).1 c1
        omega
      refine hK s hs1 ?_
      have := pmN_stop (k := k) (R := R) (by rw [e0, hmm]; rfl) (m - k)
      rw [show k + (m - k) = m by omega] at this
      rw [this]
      exact hs2
    · have hmm : mi ≠ 10000 := fun e => c1 (by rw [e]; exact nI_lt (a := 10000) (by decide) (by decide))
      refine c_min w' hs2 (fun M' f' h' => hL M' ⟨hs1.trans f', ?_⟩)
      rw [e, if_neg (by rw [e0]; exact fun c => hmm (nI_inj (b := 10000) (by omega) (by decide) c))]
      exact h'
theorem m_pass (hr : Rw M r) (w : WF T R) (e1 : p = nI m) (hm : m < 1000) (h : K (nI (cIn (pmN m R) 3) - nI (cIn R 3)) (uR M r (pmN m R))) : f_X13_pass p (uR M r R) K := by
  subst e1
  unfold f_X13_pass
  refine ⟨_, inv_loop (fun n (s : Int32 × TM) k => f_X13_pass_L4 (nI m) K n (nI m) s.1 (nI k) s.2) (fun k s => s.2 = uR M r (pmN k R) ∧ s.1 = nI (cIn (pmN k R) 3) - nI (cIn R 3)) m (fun n s hs => ?_) (fun n s k hk hs hL => ?_) m 0 (0, uR M r R) (Nat.zero_add _) ⟨rfl, (Int32.sub_self _).symm⟩⟩
  · obtain ⟨s1, s2⟩ := s
    obtain ⟨h1, h2⟩ := hs
    dsimp only at h1 h2 ⊢
    subst h1
    subst h2
    rw [f_X13_pass_L4]
    exact cT' (nI_le (Nat.le_refl _) (by omega)) h
  · obtain ⟨w', f1, f2, f3⟩ := pmN_w w k
    obtain ⟨s1, s2⟩ := s
    obtain ⟨h1, h2⟩ := hs
    dsimp only at h1 h2 ⊢
    subst h1
    rw [f_X13_pass_L4]
    refine cN' (nI_ge hk (by omega)) ?_
    refine m_min hr w' ?_
    rw [nI_1]
    refine hL (s1 + _, _) ⟨rfl, ?_⟩
    rw [h2, tel]
    rfl
end PASS2
