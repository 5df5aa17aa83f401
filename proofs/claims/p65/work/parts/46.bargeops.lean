/-! the changes of one barge: sail, flour, collect, wash -/
theorem u2_sw {M : TM} {r j : Nat} {R : Nat → Int32} {v : Int32} (h : r ≠ 699) : u2 (uR M r R) 699 j v = uR (u2 M 699 j v) r R := by
  funext i
  by_cases h1 : i = 699
  · subst h1; rw [uR_n (fun e => h e.symm), u2_id, u2_id, uR_s, uR_s, uR_n (fun e => h e.symm)]
  · rw [u2_n h1]
    by_cases h2 : i = r
    · subst h2; rw [uR_s, uR_s]
    · rw [uR_n h2, uR_n h2, u2_n h1]
theorem Rw.u (M : TM) {r : Nat} {j : Nat} (v : Int32) (hj : j ≠ 6) (hr : Rw M r) : Rw (u2 M 699 j v) r := by
  unfold Rw
  rw [u2_f (fun e => hj e.symm)]
  exact hr
def okS (R : Nat → Int32) (p q : Int32) : Bool := (inR p (nb R) && inR q (np R)) && decide (obs R p.toNatClampNeg q.toNatClampNeg = 0)
def okF (R : Nat → Int32) (p u : Int32) : Bool := inR p (nb R) && (free R p.toNatClampNeg 0 && decide (bg R p.toNatClampNeg 3 + u ≤ 99))
def okG (R : Nat → Int32) (p : Int32) : Bool := inR p (nb R) && !inL R p.toNatClampNeg
def okW (R : Nat → Int32) (p : Int32) : Bool := inR p (nb R) && free R p.toNatClampNeg 0
def aSail (R : Nat → Int32) (b : Nat) (q : Int32) : Nat → Int32 := sB R b 1 q
def aFlour (R : Nat → Int32) (b : Nat) (u : Int32) : Nat → Int32 := upd (sB R b 3 (bg R b 3 + u)) 4 (R 4 - u)
def aGather (R : Nat → Int32) (b : Nat) : Nat → Int32 := upd (sB R b 5 (bg R b 5 + R (40 + pl R b))) (40 + pl R b) 0
def aWash (R : Nat → Int32) (b : Nat) : Nat → Int32 := sB (sB R b 4 (bg R b 4 + bg R b 5)) b 5 0
section BARGEOPS
variable {M : TM} {r c T : Nat} {R R' : Nat → Int32} {K : Int32 → TM → Prop} {KV : TM → Prop} {p q u s : Int32} {b o f j a t : Nat}
theorem m_doSail (hr : Rw M r) (w : WF T R) (h1 : (inR p (nb R) && inR q (np R)) = false → K 1 (uR M r R)) (h2 : (inR p (nb R) && inR q (np R)) = true → okS R p q = false → K 2 (uR M r R)) (h0 : okS R p q = true → K 0 (uR (u2 M 699 10 (tB R (pl R p.toNatClampNeg) q.toNatClampNeg)) r (aSail R p.toNatClampNeg q))) : f_X13_doSail p q (uR M r R) K := by
  unfold f_X13_doSail
  have n5 := w.nb5
  have n16 := w.np16
  refine m_isBarge hr w.ix ?_
  refine bF (fun hp => ?_) (fun hp => h1 (by rw [hp]; rfl))
  refine m_isPlace hr w.ix ?_
  refine bT (fun hq => ?_) (fun hq => h1 (by rw [hq, Bool.and_false]))
  obtain ⟨b, hb, rfl⟩ := inR_of (by omega) hp
  obtain ⟨t, ht, rfl⟩ := inR_of (by omega) hq
  have hpl := (w.2.1 b hb).ePl
  refine m_obs hr rfl rfl (by omega) (by omega) hpl.1 (by omega) ?_
  unfold okS at h0 h2
  rw [hp, hq, nI_clamp (by omega), nI_clamp (by omega)] at h0 h2
  refine ⟨fun c0 => ?_, fun c0 => h2 rfl (by rw [decide_eq_false c0]; rfl)⟩
  replace h0 := h0 (by rw [decide_eq_true c0]; rfl)
  refine m_lay hr rfl (f := 1) rfl (by omega) (by decide) ?_
  refine m_of hr rfl (f := 0) rfl (by omega) (by decide) ?_
  have e0 : bg (sB R b 1 (nI t)) b 0 = nI (pl R b) := by rw [← hpl.1]; simp (disch := omega) only [bg, sB, up_n]
  rw [e0]
  refine m_tB hr rfl rfl (by omega) (by omega) ?_
  intro M17 e17
  rw [e17, u2_sw hr.lt, show tB (sB R b 1 (nI t)) (pl R b) t = tB R (pl R b) t from fo_congr _ _ (fun k hk a => by
    rw [show (sB R b 1 (nI t)) (10 + (min (pl R b) t + k)) = R (10 + (min (pl R b) t + k)) from up_n (by omega)])]
  exact h0
theorem m_doFlour (hr : Rw M r) (w : WF T R) (h1 : inR p (nb R) = false → K 1 (uR M r R)) (h2 : inR p (nb R) = true → okF R p u = false → K 3 (uR M r R)) (h0 : okF R p u = true → K 0 (uR (u2 M 699 10 (bg R p.toNatClampNeg 3 + u)) r (aFlour R p.toNatClampNeg u))) : f_X13_doFlour p u (uR M r R) K := by
  unfold f_X13_doFlour
  have n5 := w.nb5
  refine m_isBarge hr w.ix ?_
  refine bT (fun hp => ?_) (fun hp => h1 hp)
  obtain ⟨b, hb, rfl⟩ := inR_of (by omega) hp
  unfold okF at h0 h2
  rw [hp, nI_clamp (by omega)] at h0 h2
  refine m_isFree hr rfl (by omega) ?_
  refine bF (fun c1 => ?_) (fun c1 => h2 rfl (by rw [c1]; rfl))
  refine m_of hr rfl (f := 3) rfl (by omega) (by decide) ?_
  refine ⟨fun c2 => ?_, fun c2 => h2 rfl (by rw [decide_eq_false c2]; simp)⟩
  replace h0 := h0 (by rw [decide_eq_true c2, c1]; rfl)
  refine m_add hr rfl (f := 3) rfl (by omega) (by decide) ?_
  refine ⟨hr.v _, vv4, vv4, ?_⟩
  intro M16 e16
  rw [hr.rd (x := 4) (i := 4) rfl (by decide), hr.c, show ((4 : Int32)).toNatClampNeg = 4 from rfl, u2_uR, show (sB R b 3 (bg R b 3 + u)) 4 = R 4 from up_n (by omega)] at e16
  rw [e16]
  refine m_of hr rfl (f := 3) rfl (by omega) (by decide) ?_
  intro M19 e19
  rw [e19, u2_sw hr.lt, show bg (upd (sB R b 3 (bg R b 3 + u)) 4 (R 4 - u)) b 3 = bg R b 3 + u by simp (disch := omega) only [bg, sB, up_n, up_s]]
  exact h0
theorem m_doCollect (hr : Rw M r) (w : WF T R) (h1 : inR p (nb R) = false → K 1 (uR M r R)) (h2 : inR p (nb R) = true → okG R p = false → K 2 (uR M r R)) (h0 : okG R p = true → K 0 (uR (u2 M 699 10 (R (40 + pl R p.toNatClampNeg))) r (aGather R p.toNatClampNeg))) : f_X13_doCollect p (uR M r R) K := by
  unfold f_X13_doCollect
  have n5 := w.nb5
  have n16 := w.np16
  refine m_isBarge hr w.ix ?_
  refine bT (fun hp => ?_) (fun hp => h1 hp)
  obtain ⟨b, hb, rfl⟩ := inR_of (by omega) hp
  unfold okG at h0 h2
  rw [hp, nI_clamp (by omega)] at h0 h2
  refine m_isInLock hr rfl (by omega) ?_
  refine bF (fun c1 => h2 rfl (by rw [c1]; rfl)) (fun c1 => ?_)
  replace h0 := h0 (by rw [c1]; rfl)
  have hpl := (w.2.1 b hb).ePl
  refine m_of hr rfl (f := 0) rfl (by omega) (by decide) ?_
  rw [hpl.1]
  refine ⟨hr.v _, vlt (n40 _) (by omega) (by decide), ?_⟩
  intro M13 e13
  rw [hr.rd (n40 _) (by omega), u2_sw hr.lt] at e13
  rw [e13]
  have hr2 := Rw.u M (j := 10) (R (40 + pl R b)) (by decide) hr
  refine m_add hr2 rfl (f := 5) rfl (by omega) (by decide) ?_
  refine ⟨hr2.v _, vlt (n40 _) (by omega) (by decide), ?_⟩
  intro M17 e17
  rw [hr2.c, n40, nI_clamp (by omega), u2_uR, show (uR (u2 M 699 10 (R (40 + pl R b))) r R 699 10) = R (40 + pl R b) by rw [uR_n (fun e => hr.lt e.symm), u2_s]] at e17
  rw [e17]
  exact h0
theorem m_doWash (hr : Rw M r) (w : WF T R) (h1 : inR p (nb R) = false → K 1 (uR M r R)) (h2 : inR p (nb R) = true → okW R p = false → K 2 (uR M r R)) (h0 : okW R p = true → K 0 (uR (u2 M 699 10 (bg R p.toNatClampNeg 4 + bg R p.toNatClampNeg 5)) r (aWash R p.toNatClampNeg))) : f_X13_doWash p (uR M r R) K := by
  unfold f_X13_doWash
  have n5 := w.nb5
  refine m_isBarge hr w.ix ?_
  refine bT (fun hp => ?_) (fun hp => h1 hp)
  obtain ⟨b, hb, rfl⟩ := inR_of (by omega) hp
  unfold okW at h0 h2
  rw [hp, nI_clamp (by omega)] at h0 h2
  refine m_isFree hr rfl (by omega) ?_
  refine bT (fun c1 => ?_) (fun c1 => h2 rfl (by rw [c1]; rfl))
  replace h0 := h0 (by rw [c1]; rfl)
  refine m_of hr rfl (f := 5) rfl (by omega) (by decide) ?_
  refine m_add hr rfl (f := 4) rfl (by omega) (by decide) ?_
  refine m_lay hr rfl (f := 5) rfl (by omega) (by decide) ?_
  refine m_of hr rfl (f := 4) rfl (by omega) (by decide) ?_
  intro M19 e19
  rw [e19, u2_sw hr.lt, show bg (sB (sB R b 4 (bg R b 4 + bg R b 5)) b 5 0) b 4 = bg R b 4 + bg R b 5 by simp (disch := omega) only [bg, sB, up_n, up_s]]
  exact h0
/-! the class's -/
theorem c_canSail (w : WF T R) (h : RelC c M R) (hK : K (bi (okS R p q)) M) : f_X2_canSail c p q M K := by
  unfold f_X2_canSail
  have n5 := w.nb5
  have n16 := w.np16
  refine c_hasBarge w h ?_
  refine bF (fun hp => ?_) (fun hp => K_of hK (by simp [okS, hp, bi]))
  refine c_hasPlace w h ?_
  refine bF (fun hq => ?_) (fun hq => K_of hK (by simp [okS, hq, bi]))
  obtain ⟨b, hb, rfl⟩ := inR_of (by omega) hp
  obtain ⟨t, ht, rfl⟩ := inR_of (by omega) hq
  refine c_obs w h rfl hb rfl ht ?_
  refine rt1 (K_of hK ?_)
  unfold okS
  rw [hp, hq, nI_clamp (by omega), nI_clamp (by omega)]
  rfl
theorem c_setTarget (w : WF T R) (h : RelC c M R) (ok : okS R p q = true) (hK : ∀ M', FrC c M M' → RelC c M' (aSail R p.toNatClampNeg q) → KV M') : f_X2_setTarget c p q M KV := by
  unfold f_X2_setTarget
  have n5 := w.nb5
  have n16 := w.np16
  have n30 := w.no30
  unfold okS at ok
  simp only [Bool.and_eq_true, decide_eq_true_eq] at ok
  obtain ⟨⟨hp, hq⟩, ho⟩ := ok
  obtain ⟨b, hb, rfl⟩ := inR_of (by omega) hp
  refine c_hasBarge w h ?_
  rw [hp]
  refine bF (fun _ => ⟨vp_in_nI (by omega) (by decide), ?_⟩) (fun c => by cases c)
  intro M6 e6
  rw [nI_clamp (by omega)] at e6 hK ho
  subst e6
  have nL : inL R b = false := by
    unfold obs at ho
    cases e : inL R b with
    | false => rfl
    | true => rw [e] at ho; simp at ho
  have so : SOr R (sB R b 1 q) := ⟨up_n (by omega), fun o ho f hf => up_n (by omega)⟩
  refine hK _ (FrC.u2 (by omega) (by omega)) ?_
  refine h.bar n5 n30 hb (fun i h1 h2 => up_n (by omega)) (up_n (by omega)) (up_n (by omega)) (fun k h1 h2 h3 => u2_n h3) (u2_f (by decide)) ?_ (fun j hj => ?_) (fun j hj => ?_) ?_
  · unfold Sc aSail
    rw [so.eCIn]
    simp (disch := omega) only [sB, uR_n, up_n]
    exact h.1
  · refine (h.2.1 j hj).congr (u2_n (by omega)) (up_n (by omega)) (up_n (by omega)) (who_congr (by unfold nb; rw [show aSail R b q 2 = R 2 from up_n (by omega)]) (fun d hd => ?_))
    unfold inL ahead aSail
    by_cases e : d = b
    · subst e
      have nL : decide (¬ bg R d 6 ≤ 0) = false := nL
      rw [show bg (sB R d 1 q) d 6 = bg R d 6 by simp (disch := omega) only [bg, sB, up_n], nL, Bool.false_and, Bool.false_and]
    · rw [show bg (sB R b 1 q) d 6 = bg R d 6 by simp (disch := omega) only [bg, sB, up_n], show bg (sB R b 1 q) d 1 = bg R d 1 by simp (disch := omega) only [bg, sB, up_n], show bg (sB R b 1 q) d 0 = bg R d 0 by simp (disch := omega) only [bg, sB, up_n]]
  · simp (disch := omega) only [aSail, sB, uR_n, up_n]
    exact h.2.2.1 j hj
  · have hB := h.2.2.2.1 b hb
    unfold Ba at hB ⊢
    simp (disch := omega) only [aSail, bg, sB, uR_s, up_n, up_s]
    exact ⟨hB.1, trivial, hB.2.2⟩
theorem wf_sail (w : WF T R) (ok : okS R p q = true) : WF T (aSail R p.toNatClampNeg q) := by
  have n5 := w.nb5
  have n16 := w.np16
  unfold okS at ok
  simp only [Bool.and_eq_true, decide_eq_true_eq] at ok
  obtain ⟨⟨hp, hq⟩, ho⟩ := ok
  obtain ⟨b, hb, rfl⟩ := inR_of (by omega) hp
  obtain ⟨t, ht, rfl⟩ := inR_of (by omega) hq
  rw [nI_clamp (by omega), nI_clamp (by omega)] at ho
  rw [nI_clamp (by omega)]
  have nL : inL R b = false := by
    unfold obs at ho
    cases e : inL R b with
    | false => rfl
    | true => rw [e] at ho; simp at ho
  have g : ∀ d f, f ≠ 1 → f < 7 → bg (aSail R b (nI t)) d f = bg R d f := fun d f h1 h2 => up_n (by omega)
  have g1 : ∀ d f, d ≠ b → f < 7 → bg (aSail R b (nI t)) d f = bg R d f := fun d f h1 h2 => up_n (by omega)
  have np' : np (aSail R b (nI t)) = np R := by unfold np; simp (disch := omega) only [aSail, sB, up_n]
  refine w.bar hb (fun i h1 h2 => up_n (by omega)) ?_ ?_ ?_ ?_ ?_ ?_ (fun j hj => up_n (by omega)) (fun j h1 h2 => ?_) ?_ ?_
  iterate 6 simp (disch := omega) only [aSail, sB, up_n]
  · rw [show aSail R b (nI t) (40 + j) = R (40 + j) from up_n (by omega), show aSail R b (nI t) (56 + j) = R (56 + j) from up_n (by omega)]
    exact w.1.2.2.2.2.2.2.2 j h1 h2
  · obtain ⟨p, t', v, a1, a2, a3, a4, a5, a6, a7⟩ := w.2.1 b hb
    refine ⟨p, t, v, by rw [np']; exact a1, by rw [np']; exact ht, a3, by rw [g b 0 (by decide) (by decide)]; exact a4, up_s _ _ _, by rw [g b 6 (by decide) (by decide)]; exact a6, fun hv => ?_⟩
    exfalso
    unfold inL at nL
    rw [a6] at nL
    simp only [decide_eq_false_iff_not, Decidable.not_not] at nL
    exact nI_nle (by omega) (by omega) nL
  · intro x y hx hy lx ly e
    have e2 : nb (aSail R b (nI t)) = nb R := by unfold nb; rw [show aSail R b (nI t) 2 = R 2 from up_n (by omega)]
    rw [e2] at hx hy
    have inl : ∀ d, inL (aSail R b (nI t)) d = inL R d := fun d => by unfold inL; rw [g d 6 (by decide) (by decide)]
    rw [inl] at lx ly
    have ah : ∀ d, d ≠ b → ahead (aSail R b (nI t)) d = ahead R d := fun d hd => by unfold ahead; rw [g1 d 0 hd (by decide), g1 d 1 hd (by decide)]
    have hx2 : x ≠ b := fun e => by rw [e, nL] at lx; cases lx
    have hy2 : y ≠ b := fun e => by rw [e, nL] at ly; cases ly
    rw [ah x hx2, ah y hy2] at e
    exact w.2.2.2.1 x y hx hy lx ly e
theorem c_isInHarbor (w : WF T R) (h : RelC c M R) (hK : K (bi (okW R p)) M) : f_X2_isInHarbor c p M K := by
  unfold f_X2_isInHarbor
  have n5 := w.nb5
  refine c_hasBarge w h ?_
  refine bF (fun hp => ?_) (fun hp => K_of hK (by simp [okW, hp, bi]))
  obtain ⟨b, hb, rfl⟩ := inR_of (by omega) hp
  rw [nI_clamp (by omega), (h.2.2.2.1 b hb).1]
  unfold okW at hK
  rw [hp, nI_clamp (by omega), Bool.true_and] at hK
  refine ⟨vp_in_nI (by omega) (by decide), fun c1 => K_of hK (by simp [free, c1, bi]), fun c1 => ⟨vp_in_nI (by omega) (by decide), ?_⟩⟩
  refine c_inLock w h hb ?_
  exact bT (fun c2 => K_of hK (by simp [free, c2, bi])) (fun c2 => K_of hK (by simp [free, c2, c1, bi]))
theorem c_canLoadFlour (w : WF T R) (h : RelC c M R) (hK : K (bi (okF R p u)) M) : f_X2_canLoadFlour c p u M K := by
  unfold f_X2_canLoadFlour
  have n5 := w.nb5
  refine c_isInHarbor w h ?_
  refine bF (fun hp => ?_) (fun hp => K_of hK ?_)
  · have hp' := hp
    unfold okW at hp'
    simp only [Bool.and_eq_true] at hp'
    obtain ⟨b, hb, rfl⟩ := inR_of (by omega) hp'.1
    unfold okF at hK
    rw [hp'.1, hp'.2, Bool.true_and, Bool.true_and, nI_clamp (by omega)] at hK
    rw [nI_clamp (by omega), (h.2.2.2.1 b hb).2.2.2.2.1]
    refine ⟨vp_in_nI (by omega) (by decide), ?_⟩
    exact rt0 (K_of hK (by congr 1; exact decide_eq_decide.2 Int32.not_lt.symm))
  · unfold okW at hp
    unfold okF
    rw [← Bool.and_assoc, hp, Bool.false_and]
    rfl
theorem c_canGather (w : WF T R) (h : RelC c M R) (hK : K (bi (okG R p)) M) : f_X2_canGather c p M K := by
  unfold f_X2_canGather
  have n5 := w.nb5
  refine c_hasBarge w h ?_
  refine bF (fun hp => ?_) (fun hp => K_of hK (by simp [okG, hp, bi]))
  obtain ⟨b, hb, rfl⟩ := inR_of (by omega) hp
  rw [nI_clamp (by omega)]
  unfold okG at hK
  rw [hp, nI_clamp (by omega), Bool.true_and] at hK
  refine ⟨vp_in_nI (by omega) (by decide), ?_⟩
  refine c_inLock w h hb ?_
  exact bT (fun c2 => K_of hK (by simp [c2, bi])) (fun c2 => K_of hK (by simp [c2, bi]))
/-- a row whose barges stand and sail as before -/
theorem wl_same (w : WF T R) (h2 : R' 2 = R 2) (h : ∀ d, d < nb R → bg R' d 0 = bg R d 0 ∧ bg R' d 1 = bg R d 1 ∧ bg R' d 6 = bg R d 6) : WL R' ∧ ∀ s, who R' s = who R s := by
  have e2 : nb R' = nb R := by unfold nb; rw [h2]
  have a1 : ∀ d, d < nb R → inL R' d = inL R d := fun d hd => by unfold inL; rw [(h d hd).2.2]
  have a2 : ∀ d, d < nb R → ahead R' d = ahead R d := fun d hd => by unfold ahead; rw [(h d hd).1, (h d hd).2.1]
  refine ⟨fun x y hx hy => ?_, fun s => who_congr e2 (fun d hd => by rw [a1 d hd, a2 d hd])⟩
  rw [e2] at hx hy
  rw [a1 x hx, a1 y hy, a2 x hx, a2 y hy]
  exact w.2.2.2.1 x y hx hy
theorem c_loadFlour (w : WF T R) (h : RelC c M R) (ok : okF R p u = true) (hK : ∀ M', FrC c M M' → RelC c M' (aFlour R p.toNatClampNeg u) → KV M') : f_X2_loadFlour c p u M KV := by
  unfold f_X2_loadFlour
  have n5 := w.nb5
  have n16 := w.np16
  have n30 := w.no30
  unfold okF at ok
  rw [Bool.and_eq_true] at ok
  obtain ⟨hp, ho⟩ := ok
  obtain ⟨b, hb, rfl⟩ := inR_of (by omega) hp
  refine c_hasBarge w h ?_
  rw [hp]
  refine bF (fun _ => ⟨vp_in_nI (by omega) (by decide), ?_⟩) (fun c => by cases c)
  intro M6 e6 M7 e7
  rw [nI_clamp (by omega)] at e6 hK
  have hB := h.2.2.2.1 b hb
  subst e7
  subst e6
  refine hK _ ((FrC.u2 (by omega) (by omega)).trans (FrC.u2 (by omega) (by omega))) ?_
  have so : SOr R (aFlour R b u) := ⟨by simp (disch := omega) only [aFlour, sB, up_n], fun o ho f hf => by simp (disch := omega) only [aFlour, og, sB, up_n]⟩
  have h2 : aFlour R b u 2 = R 2 := by simp (disch := omega) only [aFlour, sB, up_n]
  have ww := (wl_same w h2 (fun d hd => by simp (disch := omega) only [aFlour, bg, sB, up_n]; exact ⟨trivial, trivial, trivial⟩)).2
  refine h.bar n5 n30 hb (fun i h1 h2 => by simp (disch := omega) only [aFlour, sB, up_n]) h2 so.1 (fun k h1 h2 h3 => by simp (disch := omega) only [uR_n]) (by simp (disch := omega) only [uR_n, uR_s, up_n]) ?_ (fun j hj => ?_) (fun j hj => ?_) ?_
  · unfold Sc
    rw [so.eCIn]
    simp (disch := omega) only [aFlour, sB, uR_n, uR_s, up_n, up_s]
    have hs := h.1
    unfold Sc at hs
    rw [hs.2.2.2.2.1]
    exact ⟨hs.1, hs.2.1, hs.2.2.1, hs.2.2.2.1, rfl, hs.2.2.2.2.2⟩
  · exact (h.2.1 j hj).congr (by simp (disch := omega) only [uR_n]) (by simp (disch := omega) only [aFlour, sB, up_n]) (by simp (disch := omega) only [aFlour, sB, up_n]) (ww _)
  · simp (disch := omega) only [aFlour, sB, uR_n, up_n]
    exact h.2.2.1 j hj
  · unfold Ba at hB ⊢
    simp (disch := omega) only [aFlour, bg, sB, uR_s, uR_n, up_n, up_s]
    exact ⟨hB.1, hB.2.1, hB.2.2.1, hB.2.2.2.1, by rw [hB.2.2.2.2.1]; rfl, hB.2.2.2.2.2⟩
theorem wf_flour (w : WF T R) (ok : okF R p u = true) : WF T (aFlour R p.toNatClampNeg u) := by
  have n5 := w.nb5
  have n16 := w.np16
  unfold okF at ok
  rw [Bool.and_eq_true] at ok
  obtain ⟨b, hb, rfl⟩ := inR_of (by omega) ok.1
  rw [nI_clamp (by omega)]
  have h2 : aFlour R b u 2 = R 2 := by simp (disch := omega) only [aFlour, sB, up_n]
  have g : ∀ d f, f ≠ 3 → f < 7 → bg (aFlour R b u) d f = bg R d f := fun d f h1 h2 => by simp (disch := omega) only [aFlour, bg, sB, up_n]
  have ww := (wl_same w h2 (fun d hd => ⟨g d 0 (by decide) (by decide), g d 1 (by decide) (by decide), g d 6 (by decide) (by decide)⟩)).1
  refine w.bar hb (fun i h1 h2 => by simp (disch := omega) only [aFlour, sB, up_n]) ?_ ?_ h2 ?_ ?_ ?_ (fun j hj => ?_) (fun j h1 h2 => ?_) ?_ ww
  iterate 5 simp (disch := omega) only [aFlour, sB, up_n]
  · simp (disch := omega) only [aFlour, sB, up_n]
  · simp (disch := omega) only [aFlour, sB, up_n]
    exact w.1.2.2.2.2.2.2.2 j h1 h2
  · obtain ⟨p, t', v, a1, a2, a3, a4, a5, a6, a7⟩ := w.2.1 b hb
    have np' : np (aFlour R b u) = np R := by unfold np; simp (disch := omega) only [aFlour, sB, up_n]
    exact ⟨p, t', v, by rw [np']; exact a1, by rw [np']; exact a2, a3, by rw [g b 0 (by decide) (by decide)]; exact a4, by rw [g b 1 (by decide) (by decide)]; exact a5, by rw [g b 6 (by decide) (by decide)]; exact a6, a7⟩
theorem c_gather (w : WF T R) (h : RelC c M R) (ok : okG R p = true) (hK : ∀ M', FrC c M M' → RelC c M' (aGather R p.toNatClampNeg) → KV M') : f_X2_gather c p M KV := by
  unfold f_X2_gather
  have n5 := w.nb5
  have n16 := w.np16
  have n30 := w.no30
  unfold okG at ok
  rw [Bool.and_eq_true] at ok
  obtain ⟨hp, ho⟩ := ok
  obtain ⟨b, hb, rfl⟩ := inR_of (by omega) hp
  have hB := h.2.2.2.1 b hb
  have hpl := (w.2.1 b hb).ePl
  refine c_hasBarge w h ?_
  rw [hp]
  refine bF (fun _ => ⟨vp_in_nI (by omega) (by decide), ?_⟩) (fun c => by cases c)
  rw [nI_clamp (by omega), hB.1, hpl.1]
  rw [nI_clamp (by omega)] at hK
  refine c_hasPlace w h ?_
  have hpl2 := hpl.2
  rw [inR_nI hpl.2 (by omega)]
  refine bF (fun _ => ?_) (fun c => by cases c)
  rw [hB.1, hpl.1]
  refine ⟨vp_in_nI (by omega) (by decide), vp_in_nI (by omega) (by decide), vp_in_nI (by omega) (by decide), ?_⟩
  intro M6 e6
  refine ⟨vp_in_nI (by omega) (by decide), ?_⟩
  intro M7 e7
  rw [nI_clamp (by omega)] at e6 e7
  subst e7
  subst e6
  refine hK _ ((FrC.u2 (by omega) (by omega)).trans (FrC.u2 (by omega) (by omega))) ?_
  have so : SOr R (aGather R b) := ⟨by simp (disch := omega) only [aGather, sB, up_n], fun o ho f hf => by simp (disch := omega) only [aGather, og, sB, up_n]⟩
  have h2 : aGather R b 2 = R 2 := by simp (disch := omega) only [aGather, sB, up_n]
  have ww := (wl_same w h2 (fun d hd => by simp (disch := omega) only [aGather, bg, sB, up_n]; exact ⟨trivial, trivial, trivial⟩)).2
  refine h.bar n5 n30 hb (fun i h1 h2 => by simp (disch := omega) only [aGather, sB, up_n]) h2 so.1 (fun k h1 h2 h3 => by simp (disch := omega) only [uR_n]) (by simp (disch := omega) only [uR_n, uR_s, up_n]) ?_ (fun j hj => ?_) (fun j hj => ?_) ?_
  · unfold Sc
    rw [so.eCIn]
    simp (disch := omega) only [aGather, sB, uR_n, uR_s, up_n, up_s]
    exact h.1
  · exact (h.2.1 j hj).congr (by simp (disch := omega) only [uR_n]) (by simp (disch := omega) only [aGather, sB, up_n]) (by simp (disch := omega) only [aGather, sB, up_n]) (ww _)
  · have hu := h.2.2.1 j hj
    by_cases e : j = pl R b
    · subst e
      simp (disch := omega) only [aGather, sB, uR_n, uR_s, up_n, up_s]
      exact ⟨trivial, hu.2⟩
    · simp (disch := omega) only [aGather, sB, uR_n, uR_s, up_n]
      exact hu
  · have hu := h.2.2.1 (pl R b) (by omega)
    unfold Ba at hB ⊢
    simp (disch := omega) only [aGather, bg, sB, uR_s, uR_n, up_n, up_s]
    unfold bg at hB
    exact ⟨hB.1, hB.2.1, hB.2.2.1, hB.2.2.2.1, hB.2.2.2.2.1, hB.2.2.2.2.2.1, by rw [hB.2.2.2.2.2.2, hu.1]⟩
theorem wf_gather (w : WF T R) (ok : okG R p = true) : WF T (aGather R p.toNatClampNeg) := by
  have n5 := w.nb5
  have n16 := w.np16
  unfold okG at ok
  rw [Bool.and_eq_true] at ok
  obtain ⟨b, hb, rfl⟩ := inR_of (by omega) ok.1
  rw [nI_clamp (by omega)]
  have hpl := (w.2.1 b hb).ePl.2
  have h2 : aGather R b 2 = R 2 := by simp (disch := omega) only [aGather, sB, up_n]
  have g : ∀ d f, f ≠ 5 → f < 7 → bg (aGather R b) d f = bg R d f := fun d f h1 h2 => by simp (disch := omega) only [aGather, bg, sB, up_n]
  have ww := (wl_same w h2 (fun d hd => ⟨g d 0 (by decide) (by decide), g d 1 (by decide) (by decide), g d 6 (by decide) (by decide)⟩)).1
  refine w.bar hb (fun i h1 h2 => by simp (disch := omega) only [aGather, sB, up_n]) ?_ ?_ h2 ?_ ?_ ?_ (fun j hj => ?_) (fun j h1 h2 => ?_) ?_ ww
  iterate 5 simp (disch := omega) only [aGather, sB, up_n]
  · simp (disch := omega) only [aGather, sB, up_n]
  · simp (disch := omega) only [aGather, sB, up_n]
    exact w.1.2.2.2.2.2.2.2 j h1 h2
  · obtain ⟨p, t', v, a1, a2, a3, a4, a5, a6, a7⟩ := w.2.1 b hb
    have np' : np (aGather R b) = np R := by unfold np; simp (disch := omega) only [aGather, sB, up_n]
    exact ⟨p, t', v, by rw [np']; exact a1, by rw [np']; exact a2, a3, by rw [g b 0 (by decide) (by decide)]; exact a4, by rw [g b 1 (by decide) (by decide)]; exact a5, by rw [g b 6 (by decide) (by decide)]; exact a6, a7⟩
theorem c_clean_op (w : WF T R) (h : RelC c M R) (ok : okW R p = true) (hK : ∀ M', FrC c M M' → RelC c M' (aWash R p.toNatClampNeg) → KV M') : f_X2_clean c p M KV := by
  unfold f_X2_clean
  have n5 := w.nb5
  have n16 := w.np16
  have n30 := w.no30
  unfold okW at ok
  rw [Bool.and_eq_true] at ok
  obtain ⟨hp, ho⟩ := ok
  obtain ⟨b, hb, rfl⟩ := inR_of (by omega) hp
  have hB := h.2.2.2.1 b hb
  refine c_hasBarge w h ?_
  rw [hp]
  refine bF (fun _ => ⟨vp_in_nI (by omega) (by decide), vp_in_nI (by omega) (by decide), ?_⟩) (fun c => by cases c)
  intro M6 e6
  refine ⟨vp_in_nI (by omega) (by decide), ?_⟩
  intro M7 e7
  rw [nI_clamp (by omega)] at e6 e7 hK
  subst e7
  subst e6
  refine hK _ ((FrC.u2 (by omega) (by omega)).trans (FrC.u2 (by omega) (by omega))) ?_
  have so : SOr R (aWash R b) := ⟨by simp (disch := omega) only [aWash, sB, up_n], fun o ho f hf => by simp (disch := omega) only [aWash, og, sB, up_n]⟩
  have h2 : aWash R b 2 = R 2 := by simp (disch := omega) only [aWash, sB, up_n]
  have ww := (wl_same w h2 (fun d hd => by simp (disch := omega) only [aWash, bg, sB, up_n]; exact ⟨trivial, trivial, trivial⟩)).2
  refine h.bar n5 n30 hb (fun i h1 h2 => by simp (disch := omega) only [aWash, sB, up_n]) h2 so.1 (fun k h1 h2 h3 => by simp (disch := omega) only [uR_n]) (by simp (disch := omega) only [uR_n, uR_s, up_n]) ?_ (fun j hj => ?_) (fun j hj => ?_) ?_
  · unfold Sc
    rw [so.eCIn]
    simp (disch := omega) only [aWash, sB, uR_n, uR_s, up_n, up_s]
    exact h.1
  · exact (h.2.1 j hj).congr (by simp (disch := omega) only [uR_n]) (by simp (disch := omega) only [aWash, sB, up_n]) (by simp (disch := omega) only [aWash, sB, up_n]) (ww _)
  · simp (disch := omega) only [aWash, sB, uR_n, up_n]
    exact h.2.2.1 j hj
  · unfold Ba at hB ⊢
    simp (disch := omega) only [aWash, bg, sB, uR_s, uR_n, up_n, up_s]
    unfold bg at hB
    exact ⟨hB.1, hB.2.1, hB.2.2.1, hB.2.2.2.1, hB.2.2.2.2.1, by rw [hB.2.2.2.2.2.1, hB.2.2.2.2.2.2], trivial⟩
theorem wf_wash (w : WF T R) (ok : okW R p = true) : WF T (aWash R p.toNatClampNeg) := by
  have n5 := w.nb5
  have n16 := w.np16
  unfold okW at ok
  rw [Bool.and_eq_true] at ok
  obtain ⟨b, hb, rfl⟩ := inR_of (by omega) ok.1
  rw [nI_clamp (by omega)]
  have h2 : aWash R b 2 = R 2 := by simp (disch := omega) only [aWash, sB, up_n]
  have g : ∀ d f, f ≠ 4 → f ≠ 5 → f < 7 → bg (aWash R b) d f = bg R d f := fun d f h1 h2 h3 => by simp (disch := omega) only [aWash, bg, sB, up_n]
  have ww := (wl_same w h2 (fun d hd => ⟨g d 0 (by decide) (by decide) (by decide), g d 1 (by decide) (by decide) (by decide), g d 6 (by decide) (by decide) (by decide)⟩)).1
  refine w.bar hb (fun i h1 h2 => by simp (disch := omega) only [aWash, sB, up_n]) ?_ ?_ h2 ?_ ?_ ?_ (fun j hj => ?_) (fun j h1 h2 => ?_) ?_ ww
  iterate 5 simp (disch := omega) only [aWash, sB, up_n]
  · simp (disch := omega) only [aWash, sB, up_n]
  · simp (disch := omega) only [aWash, sB, up_n]
    exact w.1.2.2.2.2.2.2.2 j h1 h2
  · obtain ⟨p, t', v, a1, a2, a3, a4, a5, a6, a7⟩ := w.2.1 b hb
    have np' : np (aWash R b) = np R := by unfold np; simp (disch := omega) only [aWash, sB, up_n]
    exact ⟨p, t', v, by rw [np']; exact a1, by rw [np']; exact a2, a3, by rw [g b 0 (by decide) (by decide) (by decide)]; exact a4, by rw [g b 1 (by decide) (by decide) (by decide)]; exact a5, by rw [g b 6 (by decide) (by decide) (by decide)]; exact a6, a7⟩
end BARGEOPS
