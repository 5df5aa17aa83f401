/-! p65: what is told ahead comes so -/
section TIME
variable {T P m i k b d o t f x j a n' : Nat} {R R' R1 : Nat → Int32} {p q u v : Int32}
/-- behind the moves nothing moves -/
theorem sm_rest (w : WF T R) : Sm (fo (fun b a => stM a b) (nb R) R) (pmR R) := by
  obtain ⟨R1, R2, R3, h1, h2, h3, h4, w1, w2, w3, -⟩ := min_st w
  rw [← h1]
  have s2 : Sm R1 R2 := by
    rw [h2]
    have := w1.nb5
    exact fo_inv (P := fun a => Sm R1 a) (Sm.refl R1) (fun k hk a ha => ha.trans (sm_pl (by omega)))
  have s3 : Sm R2 R3 := by
    rw [h3]
    have := w2.nb5
    unfold svR
    refine (fo_inv (P := fun a => WF T a ∧ a 2 = R2 2 ∧ a 3 = R2 3 ∧ Sm R2 a) ⟨w2, rfl, rfl, Sm.refl R2⟩ (fun k hk a ha => ?_)).2.2.2
    refine fo_inv (P := fun a => WF T a ∧ a 2 = R2 2 ∧ a 3 = R2 3 ∧ Sm R2 a) ha (fun o ho x hx => ?_)
    have hk' : k < nb x := by unfold nb at hk ⊢; rw [hx.2.1]; exact hk
    have ho' : o < no x := by unfold no at ho ⊢; rw [hx.2.2.1]; exact ho
    obtain ⟨q1, -, -, q2, q3⟩ := er_w hx.1 hk' ho'
    have := (hx.1.2.1 k hk').ePl.2
    have := hx.1.np16
    exact ⟨q1, q2.trans hx.2.1, q3.trans hx.2.2.1, hx.2.2.2.trans (sm_er (by omega) (by omega))⟩
  have s4 : Sm R3 (pmR R) := by
    rw [h4]
    refine Sm.up ?_ (nks (by decide) (by decide))
    exact fo_inv (P := fun a => Sm R3 a) (Sm.refl R3) (fun k hk a ha => ha.trans sm_ex)
  exact s2.trans (s3.trans s4)
theorem st_o (hd : d < 5) (hb : b < 5) (hf : f < 7) (hne : d ≠ b) : bg (stM R b) d f = bg R d f := by
  unfold stM
  split
  · exact mv_i (by omega) (by omega)
  · rfl
theorem st_c (h : i < 72) : stM R b i = R i := by
  unfold stM
  split
  · exact mv_i (by omega) (by omega)
  · rfl
theorem st_1 (hb : b < 5) : bg (stM R b) b 1 = bg R b 1 := by
  unfold stM
  split
  · exact mv_i (by omega) (by omega)
  · rfl
/-- the state in which barge b's turn comes -/
theorem fm_pre (w : WF T R) : ∀ k, k ≤ nb R → WF T (fo (fun b a => stM a b) k R) ∧ (∀ i, i < 72 → fo (fun b a => stM a b) k R i = R i) ∧ ∀ d f, k ≤ d → d < nb R → f < 7 → bg (fo (fun b a => stM a b) k R) d f = bg R d f := by
  have n5 := w.nb5
  intro k
  induction k with
  | zero => intro _; exact ⟨w, fun _ _ => rfl, fun _ _ _ _ _ => rfl⟩
  | succ k ih =>
    intro hk
    obtain ⟨i1, i2, i3⟩ := ih (by omega)
    refine ⟨stM_w i1 (by unfold nb at hk ⊢; rw [i2 2 (by decide)]; omega), fun i hi => (st_c hi).trans (i2 i hi), fun d f h1 h2 h3 => (st_o (by omega) (by omega) h3 (by omega)).trans (i3 d f (by omega) h2 h3)⟩
theorem fm_post (w : WF T R) (hb : b < nb R) (hf : f < 7) : ∀ k, b + k < nb R → bg (fo (fun b a => stM a b) (b + 1 + k) R) b f = bg (stM (fo (fun b a => stM a b) b R) b) b f := by
  have n5 := w.nb5
  intro k
  induction k with
  | zero => intro _; rfl
  | succ k ih => intro h; exact (st_o (d := b) (b := b + 1 + k) (by omega) (by omega) hf (by omega)).trans (ih (by omega))
theorem pm_bar (w : WF T R) (hb : b < nb R) (hf : f = 0 ∨ f = 1 ∨ f = 6) : bg (pmR R) b f = bg (stM (fo (fun b a => stM a b) b R) b) b f := by
  have n5 := w.nb5
  have h1 := (sm_rest w).fb (b := b) (f := f) (by omega) hf
  have h2 := fm_post w hb (f := f) (by omega) (nb R - 1 - b) (by omega)
  rw [show b + 1 + (nb R - 1 - b) = nb R by omega] at h2
  exact Eq.trans h1 h2
theorem pm_10 (w : WF T R) (hj : j < 15) : pmR R (10 + j) = R (10 + j) := by
  rw [sm_rest w (10 + j) (Or.inr (Or.inl ⟨by omega, by omega⟩))]
  exact (fm_pre w _ (Nat.le_refl _)).2.1 _ (by omega)
theorem pm_25 (w : WF T R) : pmR R 25 = R 25 := by
  obtain ⟨R1, R2, R3, h1, h2, h3, h4, w1, w2, w3, -⟩ := min_st w
  have s1 : R1 25 = R 25 := by rw [h1]; exact (fm_pre w _ (Nat.le_refl _)).2.1 25 (by decide)
  have s2 : R2 25 = R1 25 := by
    rw [h2]
    refine (fo_inv (P := fun a => WF T a ∧ a 2 = R1 2 ∧ a 25 = R1 25) ⟨w1, rfl, rfl⟩ (fun k hk a ha => ?_)).2.2
    have hk' : k < nb a := by unfold nb at hk ⊢; rw [ha.2.1]; exact hk
    exact ⟨wf_pull ha.1 hk', (plR_s ha.1 hk' (by decide)).trans ha.2.1, (plR_s ha.1 hk' (by decide)).trans ha.2.2⟩
  have s3 : R3 25 = R2 25 := by
    rw [h3]
    unfold svR
    refine (fo_inv (P := fun a => WF T a ∧ a 2 = R2 2 ∧ a 3 = R2 3 ∧ a 25 = R2 25) ⟨w2, rfl, rfl, rfl⟩ (fun k hk a ha => ?_)).2.2.2
    refine fo_inv (P := fun a => WF T a ∧ a 2 = R2 2 ∧ a 3 = R2 3 ∧ a 25 = R2 25) ha (fun o ho x hx => ?_)
    have hk' : k < nb x := by unfold nb at hk ⊢; rw [hx.2.1]; exact hk
    have ho' : o < no x := by unfold no at ho ⊢; rw [hx.2.2.1]; exact ho
    obtain ⟨q1, -, -, q2, q3⟩ := er_w hx.1 hk' ho'
    have h5 := hx.1.nb5
    have := (hx.1.2.1 k hk').ePl.2
    have := hx.1.np16
    refine ⟨q1, q2.trans hx.2.1, q3.trans hx.2.2.1, Eq.trans ?_ hx.2.2.2⟩
    unfold er
    split
    · exact eat_n (by omega) (by omega) (by omega) (by omega) (by omega) (by omega) (by omega)
    · rfl
  have s4 : fo (fun o a => exR o a) (no R3) R3 25 = R3 25 := fo_inv (P := fun (a : Nat → Int32) => a 25 = R3 25) rfl (fun k hk a ha => (ex_i (by omega) (by decide) (by decide)).trans ha)
  rw [h4, show upd (fo (fun o a => exR o a) (no R3) R3) 0 (fo (fun o a => exR o a) (no R3) R3 0 + 1) 25 = fo (fun o a => exR o a) (no R3) R3 25 from up_n (by decide), s4, s3, s2, s1]
theorem pm_tg (w : WF T R) (hb : b < nb R) : bg (pm R) b 1 = bg R b 1 := by
  have n5 := w.nb5
  unfold pm
  split
  · rfl
  · rw [pm_bar w hb (Or.inr (Or.inl rfl)), st_1 (by omega)]
    exact (fm_pre w b (by omega)).2.2 b 1 (Nat.le_refl _) hb (by decide)
theorem pmN_tg (w : WF T R) (hb : b < nb R) : ∀ n, bg (pmN n R) b 1 = bg R b 1 := by
  intro n
  induction n with
  | zero => rfl
  | succ n ih =>
    obtain ⟨w1, -, e2, -⟩ := pmN_w w n
    have hb' : b < nb (pmN n R) := by unfold nb at hb ⊢; rw [e2]; exact hb
    exact (pm_tg w1 hb').trans ih
theorem sails_iff (h0 : bg R' b 0 = bg R b 0) (h1 : bg R' b 1 = bg R b 1) : sails R' b = sails R b := by unfold sails; rw [h0, h1]
theorem stM_no (h : sails R b = false) : stM R b = R := by unfold stM; rw [if_neg (by rw [h]; decide)]
/-- who is there stays there -/
theorem pm_stay (w : WF T R) (hb : b < nb R) (hs : sails R b = false) : sails (pm R) b = false := by
  have n5 := w.nb5
  unfold pm
  split
  · exact hs
  · have g := fun f (hf : f < 7) => (fm_pre w b (by omega)).2.2 b f (Nat.le_refl _) hb hf
    have e : stM (fo (fun b a => stM a b) b R) b = fo (fun b a => stM a b) b R := stM_no (by rw [sails_iff (g 0 (by decide)) (g 1 (by decide)), hs])
    rw [sails_iff (R := R) ?_ ?_]
    · exact hs
    · rw [pm_bar w hb (Or.inl rfl), e]; exact g 0 (by decide)
    · rw [pm_bar w hb (Or.inr (Or.inl rfl)), e]; exact g 1 (by decide)
theorem pmN_stay (w : WF T R) (hb : b < nb R) (hs : sails (pmN k R) b = false) : ∀ n, sails (pmN (k + n) R) b = false := by
  intro n
  induction n with
  | zero => exact hs
  | succ n ih =>
    obtain ⟨w1, -, e2, -⟩ := pmN_w w (k + n)
    have hb' : b < nb (pmN (k + n) R) := by unfold nb at hb ⊢; rw [e2]; exact hb
    exact pm_stay w1 hb' ih
theorem mtt_cases (R : Nat → Int32) (b : Nat) : (mtt R b = -1 ∧ ∀ j, j < 201 → sails (pmN j R) b = true) ∨ ∃ k, k < 201 ∧ mtt R b = nI k ∧ sails (pmN k R) b = false ∧ ∀ j, j < k → sails (pmN j R) b = true := by
  rcases ff_cases (fun k => !sails (pmN k R) b) 201 with ⟨h1, h2⟩ | ⟨k, h1, h2, h3, h4⟩
  · exact Or.inl ⟨h1, fun j hj => by have := h2 j hj; cases h : sails (pmN j R) b with
      | true => rfl
      | false => rw [h] at this; cases this⟩
  · refine Or.inr ⟨k, h1, h2, ?_, fun j hj => ?_⟩
    · cases h : sails (pmN k R) b with
      | false => rfl
      | true => rw [h] at h3; cases h3
    · have := h4 j hj
      cases h : sails (pmN j R) b with
      | true => rfl
      | false => rw [h] at this; cases this
theorem mtt_0 : mtt R b = 0 ↔ sails R b = false := by
  rcases mtt_cases R b with ⟨h1, h2⟩ | ⟨k, h1, h2, h3, h4⟩
  · have := h2 0 (by decide)
    rw [h1]
    exact ⟨fun e => absurd e (by decide), fun e => by rw [show pmN 0 R = R from rfl, e] at this; cases this⟩
  · rw [h2]
    refine ⟨fun e => ?_, fun e => ?_⟩
    · have : k = 0 := nI_inj (a := k) (b := 0) (by omega) (by decide) e
      rw [this] at h3
      exact h3
    · by_cases hk : k = 0
      · rw [hk]; rfl
      · have := h4 0 (by omega)
        rw [show pmN 0 R = R from rfl, e] at this
        cases this
/-- at the target behind m minutes: as was told -/
theorem mtt_then (w : WF T R) (hb : b < nb R) (hm : m ≤ 200) : (sails (pmN m R) b = false) ↔ (0 ≤ mtt R b ∧ mtt R b ≤ nI m) := by
  rcases mtt_cases R b with ⟨h1, h2⟩ | ⟨k, h1, h2, h3, h4⟩
  · rw [h1, h2 m (by omega)]
    exact ⟨fun e => (by cases e), fun e => absurd e.1 (by decide)⟩
  · rw [h2]
    refine ⟨fun e => ⟨nI_pos' (by omega), ?_⟩, fun e => ?_⟩
    · refine nI_le (Nat.not_lt.1 (fun c => ?_)) (by omega)
      rw [h4 m c] at e
      cases e
    · have hk : k ≤ m := (nI_leI (by omega) (by omega)).1 e.2
      have := pmN_stay w hb h3 (m - k)
      rw [show k + (m - k) = m by omega] at this
      exact this
/-- the least that a journey takes -/
def wt (R : Nat → Int32) (s : Nat) : Nat := (R (10 + s)).toNatClampNeg
def jt (R : Nat → Int32) (a t : Nat) : Nat := sN (fun k => 1 + wt R (min a t + k)) (max a t - min a t)
def phi (R : Nat → Int32) (b : Nat) : Nat := if vl R b = 0 then jt R (pl R b) (tg R b) else vl R b + jt R (zz R b) (tg R b)
theorem wt_w (w : WF T R) (hj : j < 15) : R (10 + j) = nI (wt R j) ∧ wt R j ≤ 9 := by
  obtain ⟨v, h1, h2⟩ := w.1.2.2.2.2.2.2.1 j hj
  have : wt R j = v := by unfold wt; rw [h2, nI_clamp (by omega)]
  rw [this]
  exact ⟨h2, h1⟩
theorem tB_jt (w : WF T R) (ha : a < np R) (ht : t < np R) : tB R a t = nI (jt R a t) := by
  have n16 := w.np16
  unfold tB jt
  have := fo_sN (f := fun k => 1 + R (10 + (min a t + k))) (g := fun k => 1 + wt R (min a t + k)) (max a t - min a t) (fun k hk => by
    show (1 : Int32) + R (10 + (min a t + k)) = nI (1 + wt R (min a t + k))
    rw [(wt_w w (by omega)).1, show (1 : Int32) = nI 1 from rfl, nI_add]) 0
  rw [Nat.zero_add] at this
  exact this
theorem jt_le (w : WF T R) (ha : a < np R) (ht : t < np R) : jt R a t ≤ 150 := by
  have n16 := w.np16
  unfold jt
  have := sN_le (f := fun k => 1 + wt R (min a t + k)) (c := 10) (max a t - min a t) (fun k hk => by
    have := (wt_w w (j := min a t + k) (by omega)).2
    show 1 + wt R (min a t + k) ≤ 10
    omega)
  omega
theorem jt_self : jt R a a = 0 := by unfold jt; rw [show max a a - min a a = 0 by omega]; rfl
theorem sN_head (f : Nat → Nat) : ∀ n, sN f (n + 1) = f 0 + sN (fun k => f (k + 1)) n := by
  intro n
  induction n with
  | zero => show 0 + f 0 = f 0 + 0; omega
  | succ n ih => show sN f (n + 1) + f (n + 1) = f 0 + (sN (fun k => f (k + 1)) n + f (n + 1)); rw [ih]; omega
theorem jt_step (h : pl R b ≠ tg R b) : jt R (pl R b) (tg R b) = 1 + wt R (jj R b) + jt R (zz R b) (tg R b) := by
  unfold jt jj zz
  by_cases c : tg R b ≤ pl R b
  · rw [if_pos c, if_pos c]
    rw [show max (pl R b) (tg R b) - min (pl R b) (tg R b) = (pl R b - 1 - tg R b) + 1 by omega, show max (pl R b - 1) (tg R b) - min (pl R b - 1) (tg R b) = pl R b - 1 - tg R b by omega]
    show sN _ (pl R b - 1 - tg R b) + (1 + wt R (min (pl R b) (tg R b) + (pl R b - 1 - tg R b))) = _
    rw [show min (pl R b) (tg R b) + (pl R b - 1 - tg R b) = pl R b - 1 by omega, show min (pl R b) (tg R b) = min (pl R b - 1) (tg R b) by omega]
    omega
  · rw [if_neg c, if_neg c]
    rw [show max (pl R b) (tg R b) - min (pl R b) (tg R b) = (tg R b - (pl R b + 1)) + 1 by omega, show max (pl R b + 1) (tg R b) - min (pl R b + 1) (tg R b) = tg R b - (pl R b + 1) by omega, sN_head]
    rw [show min (pl R b) (tg R b) + 0 = pl R b by omega]
    have : ∀ k, 1 + wt R (min (pl R b) (tg R b) + (k + 1)) = 1 + wt R (min (pl R b + 1) (tg R b) + k) := fun k => by rw [show min (pl R b) (tg R b) + (k + 1) = min (pl R b + 1) (tg R b) + k by omega]
    rw [sN_congr _ (fun k _ => this k)]
theorem phi_same (h10 : ∀ j, j < 16 → wt R' j = wt R j) (n16 : pl R b < 16 ∧ tg R b < 16) (h : ∀ f, f = 0 ∨ f = 1 ∨ f = 6 → bg R' b f = bg R b f) : phi R' b = phi R b := by
  have e1 : pl R' b = pl R b := by unfold pl; rw [h 0 (by omega)]
  have e2 : tg R' b = tg R b := by unfold tg; rw [h 1 (by omega)]
  have e3 : vl R' b = vl R b := by unfold vl; rw [h 6 (by omega)]
  have e4 : zz R' b = zz R b := by unfold zz; rw [e1, e2]
  have key : ∀ a, a ≤ 16 → jt R' a (tg R b) = jt R a (tg R b) := fun a ha => by
    unfold jt
    refine sN_congr _ (fun k hk => ?_)
    rw [h10 _ (by omega)]
  unfold phi
  rw [e3, e1, e2, e4, key _ (by omega), key (zz R b) (by unfold zz; split <;> omega)]
theorem phi_mv (w : WF T R) (hb : b < nb R) (hs : sails R b = true) : phi R b ≤ phi (mvR R b) b + 1 := by
  have n5 := w.nb5
  have n16 := w.np16
  have wb := w.2.1 b hb
  have pb := sails_ne wb hs
  have h1 := wb.ePl
  have h2 := wb.eTg
  have ev := wb.eVl
  obtain ⟨aj, j1, z1⟩ := ahead_jj wb n16 pb
  have hw := wt_w w (j := jj R b) (by omega)
  have hz : zz R b ≤ 16 := by omega
  have key : ∀ R'' : Nat → Int32, (∀ i, i < 72 → R'' i = R i) → ∀ a, a ≤ 16 → jt R'' a (tg R b) = jt R a (tg R b) := fun R'' h a ha => by
    unfold jt
    refine sN_congr _ (fun k hk => ?_)
    unfold wt
    rw [h _ (by omega)]
  have em : ∀ i, i < 72 → mvR R b i = R i := fun i hi => mv_i (by omega) (by omega)
  have e1 : tg (mvR R b) b = tg R b := by unfold tg; rw [show bg (mvR R b) b 1 = bg R b 1 from mv_i (by omega) (by omega)]
  by_cases v0 : vl R b = 0
  · have hphi : phi R b = jt R (pl R b) (tg R b) := by unfold phi; rw [if_pos v0]
    rw [hphi, jt_step pb]
    by_cases z0 : R (10 + jj R b) = 0
    · have e : mvR R b = sB R b 0 (nI (zz R b)) := by unfold mvR; rw [if_pos v0, if_pos z0]
      have ep : pl (mvR R b) b = zz R b := by unfold pl; rw [e, show bg (sB R b 0 (nI (zz R b))) b 0 = nI (zz R b) from up_s _ _ _, nI_clamp (by omega)]
      have evl : vl (mvR R b) b = 0 := by unfold vl; rw [e, show bg (sB R b 0 (nI (zz R b))) b 6 = bg R b 6 from up_n (by omega)]; exact v0
      have ew : wt R (jj R b) = 0 := by unfold wt; rw [z0]; rfl
      unfold phi
      rw [if_pos evl, ep, e1, key _ em _ hz, ew]
      omega
    · by_cases w0 : who R (nI (jj R b)) = -1
      · have e : mvR R b = sB R b 6 (R (10 + jj R b)) := by unfold mvR; rw [if_pos v0, if_neg z0, if_pos w0]
        have ep : pl (mvR R b) b = pl R b := by unfold pl; rw [e, show bg (sB R b 6 (R (10 + jj R b))) b 0 = bg R b 0 from up_n (by omega)]
        have evl : vl (mvR R b) b = wt R (jj R b) := by unfold vl; rw [e, show bg (sB R b 6 (R (10 + jj R b))) b 6 = R (10 + jj R b) from up_s _ _ _]; rfl
        have ew : wt R (jj R b) ≠ 0 := fun c => z0 (by rw [hw.1, c]; rfl)
        have ezz : zz (mvR R b) b = zz R b := by unfold zz; rw [ep, e1]
        unfold phi
        rw [if_neg (by rw [evl]; exact ew), evl, ezz, e1, key _ em _ hz]
        omega
      · have e : mvR R b = R := by unfold mvR; rw [if_pos v0, if_neg z0, if_neg w0]
        rw [e, hphi, jt_step pb]
        omega
  · have hphi : phi R b = vl R b + jt R (zz R b) (tg R b) := by unfold phi; rw [if_neg v0]
    rw [hphi]
    by_cases v1 : vl R b = 1
    · have e : mvR R b = sB (sB R b 6 0) b 0 (nI (zz R b)) := by unfold mvR; rw [if_neg v0, if_pos v1]
      have ep : pl (mvR R b) b = zz R b := by unfold pl; rw [e, show bg (sB (sB R b 6 0) b 0 (nI (zz R b))) b 0 = nI (zz R b) from up_s _ _ _, nI_clamp (by omega)]
      have evl : vl (mvR R b) b = 0 := by unfold vl; rw [e, show bg (sB (sB R b 6 0) b 0 (nI (zz R b))) b 6 = 0 from (up_n (by omega)).trans (up_s _ _ _)]; rfl
      unfold phi
      rw [if_pos evl, ep, e1, key _ em _ hz, v1]
      omega
    · have e : mvR R b = sB R b 6 (nI (vl R b - 1)) := by unfold mvR; rw [if_neg v0, if_neg v1]
      have ep : pl (mvR R b) b = pl R b := by unfold pl; rw [e, show bg (sB R b 6 (nI (vl R b - 1))) b 0 = bg R b 0 from up_n (by omega)]
      have evl : vl (mvR R b) b = vl R b - 1 := by unfold vl; rw [e, show bg (sB R b 6 (nI (vl R b - 1))) b 6 = nI (vl R b - 1) from up_s _ _ _, nI_clamp (by omega)]; rfl
      have ezz : zz (mvR R b) b = zz R b := by unfold zz; rw [ep, e1]
      unfold phi
      rw [if_neg (by rw [evl]; omega), evl, ezz, e1, key _ em _ hz]
      omega
theorem phi_pm (w : WF T R) (hb : b < nb R) : phi R b ≤ phi (pm R) b + 1 := by
  have n5 := w.nb5
  have n16 := w.np16
  have h1 := (w.2.1 b hb).ePl
  have h2 := (w.2.1 b hb).eTg
  unfold pm
  split
  · omega
  · obtain ⟨w1, p2, p3⟩ := fm_pre w b (by omega)
    have p3' : ∀ f, f = 0 ∨ f = 1 ∨ f = 6 → bg (fo (fun b a => stM a b) b R) b f = bg R b f := fun f hf => p3 b f (Nat.le_refl _) hb (by omega)
    have ea : phi (fo (fun b a => stM a b) b R) b = phi R b := phi_same (fun j hj => by unfold wt; rw [p2 _ (by omega)]) ⟨by omega, by omega⟩ p3'
    have hb1 : b < nb (fo (fun b a => stM a b) b R) := by unfold nb at hb ⊢; rw [p2 2 (by decide)]; exact hb
    have w2 : WF T (stM (fo (fun b a => stM a b) b R) b) := stM_w w1 hb1
    have hb2 : b < nb (stM (fo (fun b a => stM a b) b R) b) := by
      unfold nb at hb1 ⊢
      rw [st_c (by decide)]
      exact hb1
    have np2 : np (stM (fo (fun b a => stM a b) b R) b) = np R := by unfold np; rw [st_c (by decide), p2 1 (by decide)]
    have q1 := (w2.2.1 b hb2).ePl
    have q2 := (w2.2.1 b hb2).eTg
    have eb' : phi (pmR R) b = phi (stM (fo (fun b a => stM a b) b R) b) b := by
      refine phi_same (fun j hj => ?_) ⟨by omega, by omega⟩ (fun f hf => pm_bar w hb hf)
      unfold wt
      by_cases h15 : j < 15
      · rw [pm_10 w h15, st_c (by omega), p2 _ (by omega)]
      · have : j = 15 := by omega
        subst this
        have a1 : pmR R 25 = R 25 := pm_25 w
        rw [show 10 + 15 = 25 from rfl, a1, st_c (by omega), p2 _ (by omega)]
    rw [eb', ← ea]
    unfold stM
    split
    · rename_i hs
      exact phi_mv w1 hb1 hs
    · omega
theorem phi_0 (w : WF T R) (hb : b < nb R) (hs : sails R b = false) : phi R b = 0 := by
  have wb := w.2.1 b hb
  have n16 := w.np16
  have e : pl R b = tg R b := by
    unfold sails at hs
    have h1 := of_decide_eq_false hs
    rw [wb.ePl.1, wb.eTg.1] at h1
    have h2 := wb.ePl.2
    have h3 := wb.eTg.2
    exact (nI_inj (by omega) (by omega) (Decidable.not_not.1 h1)).symm
  have v0 : vl R b = 0 := Decidable.byContradiction (fun c => wb.eVl.2.2 c e)
  unfold phi
  rw [if_pos v0, e, jt_self]
theorem phi_pmN (w : WF T R) (hb : b < nb R) : ∀ n, phi R b ≤ phi (pmN n R) b + n := by
  intro n
  induction n with
  | zero => exact Nat.le_refl _
  | succ n ih =>
    obtain ⟨w1, -, e2, -⟩ := pmN_w w n
    have := phi_pm w1 (b := b) (by unfold nb at hb ⊢; rw [e2]; exact hb)
    rw [pmN_succ] at this
    omega
/-- a barge that is told to sail takes the journey's time at least -/
theorem mtt_ge (w : WF T R) (hb : b < nb R) (v0 : vl R b = 0) : mtt R b = -1 ∨ nI (jt R (pl R b) (tg R b)) ≤ mtt R b := by
  have wb := w.2.1 b hb
  have hj := jt_le w wb.ePl.2 wb.eTg.2
  rcases mtt_cases R b with ⟨h1, -⟩ | ⟨k, h1, h2, h3, h4⟩
  · exact Or.inl h1
  · refine Or.inr ?_
    obtain ⟨w1, -, e2, -⟩ := pmN_w w k
    have hp := phi_pmN w hb k
    rw [phi_0 w1 (by unfold nb at hb ⊢; rw [e2]; exact hb) h3] at hp
    unfold phi at hp
    rw [if_pos v0] at hp
    rw [h2]
    exact nI_le (by omega) (by omega)
end TIME
