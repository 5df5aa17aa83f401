/-! serving: the model's and the class's loops -/
theorem tel (a b c : Int32) : (a - c) + (b - a) = b - c := by
  have h : b - c = (a - c) + (b - a) := by
    rw [Int32.sub_eq_add_neg b c, Int32.sub_eq_add_neg a c, Int32.add_comm a, Int32.add_assoc, Int32.add_comm a, Int32.sub_add_cancel, Int32.add_comm]
  exact h.symm
section SERVE2
variable {i : Nat} {M M' : TM} {r c T k : Nat} {R R' : Nat → Int32} {K : Int32 → TM → Prop} {KV : TM → Prop} {p q u s v : Int32} {b d o f j a t x : Nat} {l : List Nat}
theorem eat_chain (hb : b < 5) (ho : o < 30) (hp : pl R b < 16) (R1 R2 R3 R4 : Nat → Int32) (h1 : R1 = sB R b 4 (bg R b 4 + -(og R o 1))) (h2 : R2 = upd R1 (40 + pl R b) (R1 (40 + pl R b) + og R o 1)) (h3 : R3 = upd R2 (56 + pl R b) (R2 (56 + pl R b) + og R o 1)) (h4 : R4 = upd R3 5 (R3 5 + og R o 1)) : sO (sO (upd R4 4 (R4 4 + prc R o)) o 4 3) o 5 (-1) = eatR R b o := by
  funext i
  by_cases e1 : i = 107 + 9 * o + 4
  · rw [e1, eat_o4]; simp (disch := omega) only [sO, up_n, up_s]
  by_cases e2 : i = 107 + 9 * o + 5
  · rw [e2, eat_o5]; simp (disch := omega) only [sO, up_s]
  rw [eat_d e1 e2]
  unfold dE
  rw [show sO (sO (upd R4 4 (R4 4 + prc R o)) o 4 3) o 5 (-1) i = upd R4 4 (R4 4 + prc R o) i by simp (disch := omega) only [sO, up_n]]
  by_cases e3 : i = 72 + 7 * b + 4
  · rw [if_pos e3, up_n (by omega), h4, up_n (by omega), h3, up_n (by omega), h2, up_n (by omega), h1, e3]
    exact up_s _ _ _
  rw [if_neg e3]
  by_cases e4 : i = 40 + pl R b
  · rw [if_pos e4, up_n (by omega), h4, up_n (by omega), h3, up_n (by omega), h2, e4, up_s, h1, show sB R b 4 (bg R b 4 + -(og R o 1)) (40 + pl R b) = R (40 + pl R b) from up_n (by omega)]
  rw [if_neg e4]
  by_cases e5 : i = 56 + pl R b
  · rw [if_pos e5, up_n (by omega), h4, up_n (by omega), h3, e5, up_s, h2, up_n (by omega), h1, show sB R b 4 (bg R b 4 + -(og R o 1)) (56 + pl R b) = R (56 + pl R b) from up_n (by omega)]
  rw [if_neg e5]
  by_cases e6 : i = 5
  · rw [if_pos e6, up_n (by omega), h4, e6, up_s, h3, up_n (by omega), h2, up_n (by omega), h1, show sB R b 4 (bg R b 4 + -(og R o 1)) 5 = R 5 from up_n (by omega)]
  rw [if_neg e6]
  by_cases e7 : i = 4
  · rw [if_pos e7, e7, up_s, h4, up_n (by omega), h3, up_n (by omega), h2, up_n (by omega), h1, show sB R b 4 (bg R b 4 + -(og R o 1)) 4 = R 4 from up_n (by omega)]
  · rw [if_neg e7, up_n e7, h4, up_n e6, h3, up_n e5, h2, up_n e4, h1, Int32.add_zero]
    exact up_n e3
theorem m_eat (hr : Rw M r) (hb : b < 5) (ho : o < 30) (hp : bg R b 0 = nI (pl R b)) (hp2 : pl R b < 16) (h : KV (uR M r (eatR R b o))) : f_X13_eat (nI b) (nI o) (uR M r R) KV := by
  unfold f_X13_eat
  refine m_ofO hr rfl (f := 1) rfl ho (by decide) ?_
  refine m_add hr rfl (f := 4) rfl hb (by decide) ?_
  obtain ⟨R1, h1⟩ : ∃ R1, R1 = sB R b 4 (bg R b 4 + -(og R o 1)) := ⟨_, rfl⟩
  rw [← h1]
  have p1 : bg R1 b 0 = nI (pl R b) := by rw [h1, ← hp]; exact up_n (by omega)
  refine ⟨hr.v _, ?_⟩
  refine m_of hr rfl (f := 0) rfl hb (by decide) ?_
  rw [p1]
  refine ⟨vlt (n40 _) (by omega) (by decide), vlt (n40 _) (by omega) (by decide), ?_⟩
  intro M9 e9
  rw [hr.rd (n40 _) (by omega), hr.c, n40, nI_clamp (by omega), u2_uR] at e9
  obtain ⟨R2, h2⟩ : ∃ R2, R2 = upd R1 (40 + pl R b) (R1 (40 + pl R b) + og R o 1) := ⟨_, rfl⟩
  rw [← h2] at e9
  subst e9
  have p2 : bg R2 b 0 = nI (pl R b) := by rw [h2, ← p1]; exact up_n (by omega)
  refine ⟨hr.v _, ?_⟩
  refine m_of hr rfl (f := 0) rfl hb (by decide) ?_
  rw [p2]
  refine ⟨vlt (n56 _) (by omega) (by decide), vlt (n56 _) (by omega) (by decide), ?_⟩
  intro M15 e15
  rw [hr.rd (n56 _) (by omega), hr.c, n56, nI_clamp (by omega), u2_uR] at e15
  obtain ⟨R3, h3⟩ : ∃ R3, R3 = upd R2 (56 + pl R b) (R2 (56 + pl R b) + og R o 1) := ⟨_, rfl⟩
  rw [← h3] at e15
  subst e15
  refine ⟨hr.v _, vv5, vv5, ?_⟩
  intro M19 e19
  rw [hr.rd (x := 5) (i := 5) rfl (by decide), hr.c, show ((5 : Int32)).toNatClampNeg = 5 from rfl, u2_uR] at e19
  obtain ⟨R4, h4⟩ : ∃ R4, R4 = upd R3 5 (R3 5 + og R o 1) := ⟨_, rfl⟩
  rw [← h4] at e19
  subst e19
  refine ⟨hr.v _, vv4, ?_⟩
  refine m_prc hr rfl ho ?_
  have e4 : prc R4 o = prc R o := by
    have g : ∀ f, f < 9 → og R4 o f = og R o f := fun f hf => by
      unfold og
      rw [h4, up_n (by omega), h3, up_n (by omega), h2, up_n (by omega), h1]
      exact up_n (by omega)
    unfold prc
    rw [g 1 (by decide), g 2 (by decide)]
  rw [e4]
  refine ⟨vv4, ?_⟩
  intro M25 e25
  rw [hr.rd (x := 4) (i := 4) rfl (by decide), hr.c, show ((4 : Int32)).toNatClampNeg = 4 from rfl, u2_uR] at e25
  subst e25
  refine m_layO hr rfl (f := 4) rfl ho (by decide) ?_
  refine m_layO hr rfl (f := 5) rfl ho (by decide) ?_
  rw [eat_chain hb ho hp2 R1 R2 R3 R4 h1 h2 h3 h4]
  exact h
theorem m_canServe (hr : Rw M r) (hb : b < 5) (ho : o < 30) (hl : inL R b = false) (h : K (bi (canE R b o)) (uR M r R)) : f_X13_canServe (nI b) (nI o) (uR M r R) K := by
  unfold f_X13_canServe
  refine m_bel hr rfl ho ?_
  unfold canE at h
  rw [hl] at h
  refine bF (fun h1 => ?_) (fun h1 => K_of h (by rw [h1]; rfl))
  refine m_ofO hr rfl (f := 0) rfl ho (by decide) ?_
  refine m_of hr rfl (f := 0) rfl hb (by decide) ?_
  refine ⟨fun c1 => K_of h (by rw [decide_eq_false c1, Bool.and_false]; rfl), fun c1 => ?_⟩
  refine m_of hr rfl (f := 4) rfl hb (by decide) ?_
  refine m_ofO hr rfl (f := 1) rfl ho (by decide) ?_
  refine rt0 (K_of h ?_)
  rw [h1, decide_eq_true c1]
  rfl
/-- folds of servings -/
theorem foE (w : WF T R) (hb : b < nb R) : ∀ k, k ≤ no R → WF T (fo (fun o a => er b o a) k R) ∧ fo (fun o a => er b o a) k R 0 = R 0 ∧ fo (fun o a => er b o a) k R 1 = R 1 ∧ fo (fun o a => er b o a) k R 2 = R 2 ∧ fo (fun o a => er b o a) k R 3 = R 3 := by
  intro k
  induction k with
  | zero => intro _; exact ⟨w, rfl, rfl, rfl, rfl⟩
  | succ k ih =>
    intro hk
    obtain ⟨i1, i0, i2, i3, i4⟩ := ih (by omega)
    obtain ⟨g1, g0, g2, g3, g4⟩ := er_w (b := b) (o := k) i1 (by unfold nb at hb ⊢; rw [i3]; omega) (by unfold no at hk ⊢; rw [i4]; omega)
    exact ⟨g1, by show er b k _ 0 = _; rw [g0, i0], by show er b k _ 1 = _; rw [g2, i2], by show er b k _ 2 = _; rw [g3, i3], by show er b k _ 3 = _; rw [g4, i4]⟩
theorem er_inL (w : WF T R) (hb : b < nb R) (ho : o < no R) (hd : d < nb R) : inL (er b o R) d = inL R d := by
  have n5 := w.nb5
  have n16 := w.np16
  have n30 := w.no30
  have hp := (w.2.1 b hb).ePl.2
  unfold er
  split
  · unfold inL
    rw [eat_bg (by omega) (by omega) (by omega) (Or.inr (by decide)) (by decide)]
  · rfl
theorem foE_inL (w : WF T R) (hb : b < nb R) (hd : d < nb R) : ∀ k, k ≤ no R → inL (fo (fun o a => er b o a) k R) d = inL R d := by
  intro k
  induction k with
  | zero => intro _; rfl
  | succ k ih =>
    intro hk
    obtain ⟨i1, i0, i2, i3, i4⟩ := foE w hb k (by omega)
    show inL (er b k _) d = _
    rw [er_inL i1 (by unfold nb at hb ⊢; rw [i3]; omega) (by unfold no at hk ⊢; rw [i4]; omega) (by unfold nb at hd ⊢; rw [i3]; omega), ih (by omega)]
theorem foE_lock (hl : inL R b = true) : ∀ k, fo (fun o a => er b o a) k R = R := by
  intro k
  induction k with
  | zero => rfl
  | succ k ih =>
    show er b k _ = _
    rw [ih]
    unfold er canE
    rw [hl]
    rfl
theorem m_serve (hr : Rw M r) (w : WF T R) (hb : b < nb R) (hl : inL R b = false) (h : K (nI (cIn (fo (fun o a => er b o a) (no R) R) 3) - nI (cIn R 3)) (uR M r (fo (fun o a => er b o a) (no R) R))) : f_X13_serve (nI b) (uR M r R) K := by
  unfold f_X13_serve
  have n5 := w.nb5
  have n30 := w.no30
  refine ⟨_, inv_loop (fun n (s : Int32 × TM) k => f_X13_serve_L4 (nI b) K n (nI b) s.1 (nI k) s.2) (fun k s => s.2 = uR M r (fo (fun o a => er b o a) k R) ∧ s.1 = nI (cIn (fo (fun o a => er b o a) k R) 3) - nI (cIn R 3)) (no R) (fun n s hs => ?_) (fun n s k hk hs hL => ?_) (no R) 0 (0, uR M r R) (Nat.zero_add _) ⟨rfl, (Int32.sub_self _).symm⟩⟩
  · obtain ⟨w', f0, f1, f2, f3⟩ := foE w hb (no R) (Nat.le_refl _)
    obtain ⟨s1, s2⟩ := s
    obtain ⟨h1, h2⟩ := hs
    dsimp only at h1 h2 ⊢
    subst h1
    subst h2
    rw [f_X13_serve_L4, hr.no w'.ix, show no (fo (fun o a => er b o a) (no R) R) = no R by show (fo (fun o a => er b o a) (no R) R 3).toNatClampNeg = _; rw [f3]; rfl]
    exact ⟨hr.v _, vv3, cT' (nI_le (Nat.le_refl _) (by omega)) h⟩
  · obtain ⟨w', f0, f1, f2, f3⟩ := foE w hb k (by omega)
    obtain ⟨s1, s2⟩ := s
    obtain ⟨h1, h2⟩ := hs
    dsimp only at h1 h2 ⊢
    subst h1
    have no' : no (fo (fun o a => er b o a) k R) = no R := by show (fo (fun o a => er b o a) k R 3).toNatClampNeg = _; rw [f3]; rfl
    have nb' : nb (fo (fun o a => er b o a) k R) = nb R := by show (fo (fun o a => er b o a) k R 2).toNatClampNeg = _; rw [f2]; rfl
    rw [f_X13_serve_L4, hr.no w'.ix, no']
    refine ⟨hr.v _, vv3, cN' (nI_ge hk (by omega)) ?_⟩
    refine m_canServe hr (by omega) (by omega) (by rw [foE_inL w hb hb k (by omega)]; exact hl) ?_
    have e : fo (fun o a => er b o a) (k + 1) R = if canE (fo (fun o a => er b o a) k R) b k then eatR (fo (fun o a => er b o a) k R) b k else fo (fun o a => er b o a) k R := rfl
    rw [nI_1]
    have n16 := w'.np16
    refine bF (fun c1 => ?_) (fun c1 => hL (s1, _) ⟨by rw [e, if_neg (by rw [c1]; decide)]; rfl, by rw [e, if_neg (by rw [c1]; decide)]; exact h2⟩)
    have hp := (w'.2.1 b (by rw [nb']; exact hb)).ePl
    refine m_eat hr (by omega) (by omega) hp.1 (by omega) ?_
    refine hL (s1 + 1, _) ⟨by rw [e, if_pos c1]; rfl, ?_⟩
    rw [e, if_pos c1, eat_cIn w' (by rw [nb']; exact hb) (by rw [no']; exact hk) c1, h2, ← nI_1, Int32.sub_eq_add_neg, Int32.sub_eq_add_neg, Int32.add_assoc, Int32.add_comm (-_) 1, ← Int32.add_assoc]
/-- all that is served in a minute, as the model goes -/
def svR (R : Nat → Int32) : Nat → Int32 := fo (fun b a => fo (fun o a => er b o a) (no R) a) (nb R) R
theorem foS (w : WF T R) : ∀ k, k ≤ nb R → WF T (fo (fun b a => fo (fun o a => er b o a) (no R) a) k R) ∧ fo (fun b a => fo (fun o a => er b o a) (no R) a) k R 0 = R 0 ∧ fo (fun b a => fo (fun o a => er b o a) (no R) a) k R 1 = R 1 ∧ fo (fun b a => fo (fun o a => er b o a) (no R) a) k R 2 = R 2 ∧ fo (fun b a => fo (fun o a => er b o a) (no R) a) k R 3 = R 3 := by
  intro k
  induction k with
  | zero => intro _; exact ⟨w, rfl, rfl, rfl, rfl⟩
  | succ k ih =>
    intro hk
    obtain ⟨i1, i0, i2, i3, i4⟩ := ih (by omega)
    have no' : no (fo (fun b a => fo (fun o a => er b o a) (no R) a) k R) = no R := by show (fo (fun b a => fo (fun o a => er b o a) (no R) a) k R 3).toNatClampNeg = _; rw [i4]; rfl
    obtain ⟨g1, g0, g2, g3, g4⟩ := foE (b := k) i1 (by unfold nb at hk ⊢; rw [i3]; omega) (no R) (by rw [no']; exact Nat.le_refl _)
    exact ⟨g1, g0.trans i0, g2.trans i2, g3.trans i3, g4.trans i4⟩
theorem m_serveAll (hr : Rw M r) (w : WF T R) (h : f_X13_expire (uR M r (svR R)) (fun M13 => vp_in (M13 699 6) 2 ∧ vp_in (0 : Int32) 377 ∧ vp_in (0 : Int32) 377 ∧ ∀ M17, M17 = u2 M13 (700 + (M13 699 6).toNatClampNeg) (0 : Int32).toNatClampNeg ((M13 (700 + (M13 699 6).toNatClampNeg) (0 : Int32).toNatClampNeg) + (1 : Int32)) → K (nI (cIn (svR R) 3) - nI (cIn R 3)) M17)) : ∃ n, f_X13_passMinute_L72 K n 0 0 (uR M r R) := by
  have n5 := w.nb5
  refine ⟨_, inv_loop (fun n (s : Int32 × TM) k => f_X13_passMinute_L72 K n s.1 (nI k) s.2) (fun k s => s.2 = uR M r (fo (fun b a => fo (fun o a => er b o a) (no R) a) k R) ∧ s.1 = nI (cIn (fo (fun b a => fo (fun o a => er b o a) (no R) a) k R) 3) - nI (cIn R 3)) (nb R) (fun n s hs => ?_) (fun n s k hk hs hL => ?_) (nb R) 0 (0, uR M r R) (Nat.zero_add _) ⟨rfl, (Int32.sub_self _).symm⟩⟩
  · obtain ⟨w', f0, f1, f2, f3⟩ := foS w (nb R) (Nat.le_refl _)
    obtain ⟨s1, s2⟩ := s
    obtain ⟨h1, h2⟩ := hs
    dsimp only at h1 h2 ⊢
    subst h1
    subst h2
    rw [f_X13_passMinute_L72, hr.nb w'.ix, show nb (fo (fun b a => fo (fun o a => er b o a) (no R) a) (nb R) R) = nb R by show (fo (fun b a => fo (fun o a => er b o a) (no R) a) (nb R) R 2).toNatClampNeg = _; rw [f2]; rfl]
    exact ⟨hr.v _, vv2, cT' (nI_le (Nat.le_refl _) (by omega)) h⟩
  · obtain ⟨w', f0, f1, f2, f3⟩ := foS w k (by omega)
    obtain ⟨s1, s2⟩ := s
    obtain ⟨h1, h2⟩ := hs
    dsimp only at h1 h2 ⊢
    subst h1
    have no' : no (fo (fun b a => fo (fun o a => er b o a) (no R) a) k R) = no R := by show (fo (fun b a => fo (fun o a => er b o a) (no R) a) k R 3).toNatClampNeg = _; rw [f3]; rfl
    have nb' : nb (fo (fun b a => fo (fun o a => er b o a) (no R) a) k R) = nb R := by show (fo (fun b a => fo (fun o a => er b o a) (no R) a) k R 2).toNatClampNeg = _; rw [f2]; rfl
    rw [f_X13_passMinute_L72, hr.nb w'.ix, nb']
    refine ⟨hr.v _, vv2, cN' (nI_ge hk (by omega)) ?_⟩
    refine m_isInLock hr rfl (by omega) ?_
    have e : fo (fun b a => fo (fun o a => er b o a) (no R) a) (k + 1) R = fo (fun o a => er k o a) (no R) (fo (fun b a => fo (fun o a => er b o a) (no R) a) k R) := rfl
    rw [nI_1]
    refine bF (fun c1 => hL (s1 + 0, _) ⟨by rw [e, foE_lock c1]; rfl, by rw [e, foE_lock c1, Int32.add_zero]; exact h2⟩) (fun c1 => ?_)
    refine m_serve hr w' (by rw [nb']; exact hk) c1 ?_
    rw [no']
    refine hL (s1 + _, _) ⟨by rw [e]; rfl, ?_⟩
    rw [e, h2, tel]
end SERVE2
