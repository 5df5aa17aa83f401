/-! a barge moves -/
def vl (R : Nat → Int32) (b : Nat) : Nat := (bg R b 6).toNatClampNeg
def zz (R : Nat → Int32) (b : Nat) : Nat := if tg R b ≤ pl R b then pl R b - 1 else pl R b + 1
def jj (R : Nat → Int32) (b : Nat) : Nat := if tg R b ≤ pl R b then pl R b - 1 else pl R b
def mvR (R : Nat → Int32) (b : Nat) : Nat → Int32 := if vl R b = 0 then (if R (10 + jj R b) = 0 then sB R b 0 (nI (zz R b)) else if who R (nI (jj R b)) = -1 then sB R b 6 (R (10 + jj R b)) else R) else if vl R b = 1 then sB (sB R b 6 0) b 0 (nI (zz R b)) else sB R b 6 (nI (vl R b - 1))
section MOVE
variable {M M' : TM} {r c T k : Nat} {R R' : Nat → Int32} {K : Int32 → TM → Prop} {KV : TM → Prop} {p q u s : Int32} {b d o f j a t x : Nat} {l : List Nat}
theorem WB.eVl (h : WB R b) : bg R b 6 = nI (vl R b) ∧ vl R b ≤ 9 ∧ (vl R b ≠ 0 → pl R b ≠ tg R b) := by
  have h1 := h.ePl
  have h2 := h.eTg
  have hn : np R < 2 ^ 31 := Int32.toNatClampNeg_lt _
  obtain ⟨p, t, v, a1, a2, a3, a4, a5, a6, a7⟩ := h
  have e6 : vl R b = v := by unfold vl; rw [a6, nI_clamp (by omega)]
  have ep : pl R b = p := by unfold pl; rw [a4, nI_clamp (by omega)]
  have et : tg R b = t := by unfold tg; rw [a5, nI_clamp (by omega)]
  rw [e6, ep, et]
  exact ⟨a6, a3, a7⟩
theorem sails_ne (h : WB R b) (hs : sails R b = true) : pl R b ≠ tg R b := fun e => by
  unfold sails at hs
  rw [h.ePl.1, h.eTg.1, e] at hs
  simp at hs
theorem ahead_jj (h : WB R b) (hn : np R ≤ 16) (hs : pl R b ≠ tg R b) : ahead R b = nI (jj R b) ∧ jj R b + 1 < np R ∧ zz R b < np R := by
  have h1 := h.ePl
  have h2 := h.eTg
  unfold ahead jj zz
  rw [h1.1, h2.1]
  by_cases e : tg R b ≤ pl R b
  · rw [if_pos ((nI_leI (by omega) (by omega)).2 e), if_pos e, if_pos e, show (1 : Int32) = nI 1 from rfl, nI_sub (by omega)]
    exact ⟨rfl, by omega, by omega⟩
  · rw [if_neg (fun h => e ((nI_leI (by omega) (by omega)).1 h)), if_neg e, if_neg e]
    exact ⟨rfl, by omega, by omega⟩
theorem inL_vl (h : WB R b) : inL R b = decide (vl R b ≠ 0) := by
  have h1 := h.eVl
  unfold inL
  refine decide_eq_decide.2 ?_
  rw [h1.1, show (0 : Int32) = nI 0 from rfl, nI_leI (by omega) (by decide)]
  omega
theorem nI_negone {n : Nat} (h : 1 ≤ n) : nI n + -1 = nI (n - 1) := by
  rw [← Int32.sub_eq_add_neg, show (1 : Int32) = nI 1 from rfl, nI_sub h]
theorem m_goOn (hr : Rw M r) (hb : b < 5) (h0 : bg R b 0 = nI a) (h1 : bg R b 1 = nI t) (ha : a < 16) (ht : t < 16) (hne : a ≠ t) (h : KV (uR M r (sB R b 0 (nI (if t ≤ a then a - 1 else a + 1))))) : f_X13_goOn (nI b) (uR M r R) KV := by
  unfold f_X13_goOn
  refine m_of hr rfl (f := 1) rfl hb (by decide) ?_
  refine m_of hr rfl (f := 0) rfl hb (by decide) ?_
  rw [h0, h1, nI_leI (by omega) (by omega)]
  refine ⟨fun c1 => ?_, fun c1 => ?_⟩
  · refine m_add hr rfl (f := 0) rfl hb (by decide) ?_
    rw [if_pos c1] at h
    rw [h0, nI_negone (by omega)]
    exact h
  · refine m_add hr rfl (f := 0) rfl hb (by decide) ?_
    rw [if_neg c1] at h
    rw [h0, nI_1]
    exact h
theorem m_move (hr : Rw M r) (w : WF T R) (hb : b < nb R) (hs : sails R b = true) (h : KV (uR M r (mvR R b))) : f_X13_moveBarge (nI b) (uR M r R) KV := by
  unfold f_X13_moveBarge
  have n5 := w.nb5
  have n16 := w.np16
  have wb := w.2.1 b hb
  have hne := sails_ne wb hs
  have hj := ahead_jj wb n16 hne
  have hv := wb.eVl
  have h1 := wb.ePl
  have h2 := wb.eTg
  refine m_ahead hr rfl (by omega) ?_
  rw [hj.1]
  refine m_isInLock hr rfl (by omega) ?_
  rw [inL_vl wb]
  unfold mvR at h
  refine pF (fun c1 => ?_) (fun c1 => ?_)
  · rw [if_neg c1] at h
    refine m_add hr rfl (f := 6) rfl (by omega) (by decide) ?_
    refine m_isInLock hr rfl (by omega) ?_
    rw [hv.1, nI_negone (by omega)]
    have e : inL (sB R b 6 (nI (vl R b - 1))) b = decide (vl R b ≠ 1) := by
      unfold inL
      rw [show bg (sB R b 6 (nI (vl R b - 1))) b 6 = nI (vl R b - 1) from up_s _ _ _]
      refine decide_eq_decide.2 ?_
      rw [show (0 : Int32) = nI 0 from rfl, nI_leI (by omega) (by decide)]
      omega
    rw [e]
    refine pT (fun c2 => by rw [if_neg c2] at h; exact h) (fun c2 => ?_)
    have c2 : vl R b = 1 := Decidable.not_not.1 c2
    rw [if_pos c2] at h
    rw [c2]
    refine m_goOn hr (by omega) (a := pl R b) (t := tg R b) ?_ ?_ (by omega) (by omega) hne ?_
    · rw [← h1.1]; simp (disch := omega) only [bg, sB, up_n]
    · rw [← h2.1]; simp (disch := omega) only [bg, sB, up_n]
    · exact h
  · have c1 : vl R b = 0 := Decidable.not_not.1 c1
    rw [if_pos c1] at h
    refine ⟨hr.v _, vlt (n10 _) (by omega) (by decide), ?_⟩
    rw [hr.rd (n10 _) (by omega)]
    refine ⟨fun c2 => ?_, fun c2 => ?_⟩
    · rw [if_neg c2] at h
      refine m_who hr w.ix ?_
      refine ⟨fun c3 => by rw [if_neg c3] at h; exact h, fun c3 => ?_⟩
      rw [if_pos c3] at h
      refine ⟨hr.v _, vlt (n10 _) (by omega) (by decide), ?_⟩
      rw [hr.rd (n10 _) (by omega)]
      exact m_lay hr rfl (f := 6) rfl (by omega) (by decide) h
    · rw [if_pos c2] at h
      exact m_goOn hr (by omega) h1.1 h2.1 (by omega) (by omega) hne h
/-- the class's cells behind a move -/
theorem RelC.mv (h : RelC c M R) (w : WF T R) (hb : b < nb R) (hj : j < 15) (hR : ∀ i, (i < 72 + 7 * b ∨ 72 + 7 * b + 7 ≤ i) → R' i = R i) (hM : ∀ k, c ≤ k → k < c + 61 → k ≠ c + 21 + 2 * b → k ≠ c + 6 + j → M' k = M k) (m8 : M' (c + 21 + 2 * b) 8 = M (c + 21 + 2 * b) 8) (hB : Ba (c + 21 + 2 * b) M' R' b) (h0 : M' (c + 6 + j) 0 = M (c + 6 + j) 0) (h1 : M' (c + 6 + j) 1 = M (c + 6 + j) 1) (h2 : M' (c + 6 + j) 2 = who R' (nI j)) (hw : ∀ i, i < 15 → i ≠ j → who R' (nI i) = who R (nI i)) : RelC c M' R' := by
  have n5 := w.nb5
  have n30 := w.no30
  have so : SOr R R' := ⟨hR _ (by omega), fun o ho f hf => hR _ (by omega)⟩
  refine h.bar n5 n30 hb (fun i _ h2 => hR i h2) (hR _ (by omega)) (hR _ (by omega)) (fun k h1 h2 h3 => hM k (by omega) (by omega) h3 (by omega)) m8 ?_ (fun i hi => ?_) (fun i hi => ?_) hB
  · unfold Sc
    rw [so.eCIn, hM c (by omega) (by omega) (by omega) (by omega)]
    simp (disch := omega) only [hR]
    exact h.1
  · by_cases e : i = j
    · subst e
      have hs := h.2.1 i hi
      unfold Se at hs ⊢
      rw [h0, h1, h2, hR _ (by omega), hR _ (by omega)]
      exact ⟨hs.1, hs.2.1, rfl⟩
    · exact (h.2.1 i hi).congr (hM _ (by omega) (by omega) (by omega) (by omega)) (hR _ (by omega)) (hR _ (by omega)) (hw i hi e)
  · rw [hM (c + 2) (by omega) (by omega) (by omega) (by omega), hM (c + 3) (by omega) (by omega) (by omega) (by omega), hR _ (by omega), hR _ (by omega)]
    exact h.2.2.1 i hi
/-- where no other barge's lock changes -/
theorem who_mv (n5 : nb R ≤ 5) (hR : ∀ i, (i < 72 + 7 * b ∨ 72 + 7 * b + 7 ≤ i) → R' i = R i) (hb : (inL R' b && decide (ahead R' b = s)) = (inL R b && decide (ahead R b = s))) : who R' s = who R s := by
  refine who_congr (by unfold nb; rw [hR _ (by omega)]) (fun d hd => ?_)
  by_cases e : d = b
  · rw [e]; exact hb
  · have g : ∀ f, f < 7 → bg R' d f = bg R d f := fun f hf => hR _ (by omega)
    unfold inL ahead
    rw [g 6 (by decide), g 0 (by decide), g 1 (by decide)]
theorem who_none (h : who R s = -1) (n5 : nb R ≤ 5) : ∀ d, d < nb R → inL R d = true → ahead R d ≠ s := by
  intro d hd hl e
  unfold who at h
  rcases ff_cases (fun b => inL R b && decide (ahead R b = s)) (nb R) with ⟨h1, h2⟩ | ⟨k, h1, h2, h3, h4⟩
  · have := h2 d hd
    rw [hl, e] at this
    simp at this
  · rw [h2] at h
    exact nI_m1 (by omega) h
theorem mv_WF (w : WF T R) (hb : b < nb R) (hR : ∀ i, (i < 72 + 7 * b ∨ 72 + 7 * b + 7 ≤ i) → R' i = R i) (hB : WB R' b) (hl : inL R' b = true → ahead R' b = ahead R b ∧ (inL R b = true ∨ who R (ahead R b) = -1)) : WF T R' := by
  have n5 := w.nb5
  have n16 := w.np16
  have nb' : nb R' = nb R := by unfold nb; rw [hR _ (by omega)]
  refine w.bar hb (fun i _ h2 => hR i h2) (hR _ (by omega)) (hR _ (by omega)) (hR _ (by omega)) (hR _ (by omega)) (hR _ (by omega)) (hR _ (by omega)) (fun j hj => hR _ (by omega)) (fun j h1 h2 => by rw [hR _ (by omega), hR _ (by omega)]; exact w.1.2.2.2.2.2.2.2 j h1 h2) hB ?_
  intro x y hx hy lx ly e
  rw [nb'] at hx hy
  have g : ∀ d, d ≠ b → inL R' d = inL R d ∧ ahead R' d = ahead R d := fun d hd => by
    have g : ∀ f, f < 7 → bg R' d f = bg R d f := fun f hf => hR _ (by omega)
    unfold inL ahead
    rw [g 6 (by decide), g 0 (by decide), g 1 (by decide)]
    exact ⟨rfl, rfl⟩
  have key : ∀ z, z < nb R → z ≠ b → inL R' z = true → inL R' b = true → ahead R' z = ahead R' b → False := fun z hz hne lz lb e => by
    obtain ⟨a1, a2⟩ := hl lb
    rw [(g z hne).1] at lz
    rw [(g z hne).2, a1] at e
    rcases a2 with a2 | a2
    · exact hne (w.2.2.2.1 z b hz hb lz a2 e)
    · exact who_none a2 n5 z hz lz e
  by_cases ex : x = b
  · by_cases ey : y = b
    · rw [ex, ey]
    · subst ex; exact absurd e.symm (fun e => key y hy ey ly lx e)
  · by_cases ey : y = b
    · subst ey; exact absurd e (fun e => key x hx ex lx ly e)
    · rw [(g x ex).1] at lx
      rw [(g y ey).1] at ly
      rw [(g x ex).2, (g y ey).2] at e
      exact w.2.2.2.1 x y hx hy lx ly e
theorem mv_id {i : Nat} (h : i < 72 + 7 * b ∨ 72 + 7 * b + 7 ≤ i) : mvR R b i = R i := by
  unfold mvR
  split
  · split
    · simp (disch := omega) only [sB, up_n]
    · split
      · simp (disch := omega) only [sB, up_n]
      · rfl
  · split
    · simp (disch := omega) only [sB, up_n]
    · simp (disch := omega) only [sB, up_n]
theorem wf_move (w : WF T R) (hb : b < nb R) (hs : sails R b = true) : WF T (mvR R b) := by
  have n5 := w.nb5
  have n16 := w.np16
  have wb := w.2.1 b hb
  have hne := sails_ne wb hs
  have hj := ahead_jj wb n16 hne
  have hv := wb.eVl
  have h1 := wb.ePl
  have h2 := wb.eTg
  have np' : np (mvR R b) = np R := by unfold np; rw [mv_id (by omega)]
  have il := inL_vl wb
  refine mv_WF w hb (fun i h => mv_id h) ?_ ?_
  · unfold WB
    rw [np']
    unfold mvR
    split
    · rename_i c1
      split
      · exact ⟨zz R b, tg R b, 0, hj.2.2, h2.2, by decide, by simp (disch := omega) only [bg, sB, up_n, up_s], by rw [← h2.1]; simp (disch := omega) only [bg, sB, up_n], by rw [show nI 0 = nI (vl R b) by rw [c1], ← hv.1]; simp (disch := omega) only [bg, sB, up_n], fun h => absurd rfl h⟩
      · split
        · obtain ⟨v, v9, ev⟩ := w.1.2.2.2.2.2.2.1 (jj R b) (by omega)
          exact ⟨pl R b, tg R b, v, h1.2, h2.2, v9, by rw [← h1.1]; simp (disch := omega) only [bg, sB, up_n], by rw [← h2.1]; simp (disch := omega) only [bg, sB, up_n], by rw [← ev]; simp (disch := omega) only [bg, sB, up_s], fun _ => hne⟩
        · exact ⟨pl R b, tg R b, vl R b, h1.2, h2.2, hv.2.1, h1.1, h2.1, hv.1, hv.2.2⟩
    · split
      · exact ⟨zz R b, tg R b, 0, hj.2.2, h2.2, by decide, by simp (disch := omega) only [bg, sB, up_n, up_s], by rw [← h2.1]; simp (disch := omega) only [bg, sB, up_n], by simp (disch := omega) only [bg, sB, up_n, up_s]; rfl, fun h => absurd rfl h⟩
      · exact ⟨pl R b, tg R b, vl R b - 1, h1.2, h2.2, by omega, by rw [← h1.1]; simp (disch := omega) only [bg, sB, up_n], by rw [← h2.1]; simp (disch := omega) only [bg, sB, up_n], by simp (disch := omega) only [bg, sB, up_s], fun _ => hne⟩
  · unfold mvR
    split
    · rename_i c1
      have nl : inL R b = false := by rw [il, c1]; rfl
      split
      · intro hl
        exfalso
        have : inL (sB R b 0 (nI (zz R b))) b = inL R b := by unfold inL; rw [show bg (sB R b 0 (nI (zz R b))) b 6 = bg R b 6 by simp (disch := omega) only [bg, sB, up_n]]
        rw [this, nl] at hl
        cases hl
      · split
        · rename_i c3
          intro _
          refine ⟨?_, Or.inr (by rw [hj.1]; exact c3)⟩
          unfold ahead
          rw [show bg (sB R b 6 (R (10 + jj R b))) b 0 = bg R b 0 by simp (disch := omega) only [bg, sB, up_n], show bg (sB R b 6 (R (10 + jj R b))) b 1 = bg R b 1 by simp (disch := omega) only [bg, sB, up_n]]
        · intro hl; rw [nl] at hl; cases hl
    · rename_i c1
      have yl : inL R b = true := by rw [il]; exact decide_eq_true c1
      split
      · intro hl
        exfalso
        have : inL (sB (sB R b 6 0) b 0 (nI (zz R b))) b = false := by unfold inL; rw [show bg (sB (sB R b 6 0) b 0 (nI (zz R b))) b 6 = 0 by simp (disch := omega) only [bg, sB, up_n, up_s]]; decide
        rw [this] at hl
        cases hl
      · intro _
        refine ⟨?_, Or.inl yl⟩
        unfold ahead
        rw [show bg (sB R b 6 (nI (vl R b - 1))) b 0 = bg R b 0 by simp (disch := omega) only [bg, sB, up_n], show bg (sB R b 6 (nI (vl R b - 1))) b 1 = bg R b 1 by simp (disch := omega) only [bg, sB, up_n]]
theorem c_move (w : WF T R) (h : RelC c M R) (hb : b < nb R) (hs : sails R b = true) (hK : ∀ M', FrC c M M' → RelC c M' (mvR R b) → KV M') : f_X2_move c (nI b) (c + 21 + 2 * b) M KV := by
  unfold f_X2_move
  have n5 := w.nb5
  have n16 := w.np16
  have wb := w.2.1 b hb
  have hne := sails_ne wb hs
  have hj := ahead_jj wb n16 hne
  have hv := wb.eVl
  have h1 := wb.ePl
  have h2 := wb.eTg
  have hB := h.2.2.2.1 b hb
  have il := inL_vl wb
  have key : f_X2_move_L26 c (nI b) (c + 21 + 2 * b) KV (nI b) (nI (zz R b)) M := by
    unfold f_X2_move_L26
    have eb : (if nI (zz R b) < M (c + 21 + 2 * b) 0 then nI (zz R b) else M (c + 21 + 2 * b) 0) = nI (jj R b) := by
      rw [hB.1, h1.1]
      unfold zz jj
      by_cases e : tg R b ≤ pl R b
      · rw [if_pos e, if_pos e, if_pos (nI_lt (by omega) (by omega))]
      · rw [if_neg e, if_neg e, if_neg (nI_nlt (by omega) (by omega))]
    rw [eb]
    refine c_hasSection w h ?_
    rw [inR_nI (by omega) (by omega)]
    refine bT (fun _ => ⟨vp_in_nI (by omega) (by decide), ?_⟩) (fun c => by cases c)
    have hS := h.2.1 (jj R b) (by omega)
    refine c_inLock w h hb ?_
    rw [nI_clamp (by omega), hS.1, hS.2.2, hB.2.2.2.1]
    unfold mvR at hK
    rw [il]
    refine pF (fun c1 => ?_) (fun c1 => ?_)
    · rw [if_neg c1] at hK
      have yl : inL R b = true := by rw [il]; exact decide_eq_true c1
      intro M16 e16
      have m16 : M16 (c + 21 + 2 * b) 3 = nI (vl R b - 1) := by rw [e16, u2_s, hv.1, show (1 : Int32) = nI 1 from rfl, nI_sub (by omega)]
      rw [m16, show (0 : Int32) = nI 0 from rfl, nI_eq (by omega) (by decide)]
      refine ⟨fun c2 => ?_, fun c2 => ?_⟩
      · rw [if_neg (by omega)] at hK
        subst e16
        refine hK _ (FrC.u2 (by omega) (by omega)) ?_
        have hR : ∀ i, (i < 72 + 7 * b ∨ 72 + 7 * b + 7 ≤ i) → (sB R b 6 (nI (vl R b - 1))) i = R i := fun i hi => by simp (disch := omega) only [sB, up_n]
        have iL : inL (sB R b 6 (nI (vl R b - 1))) b = true := by
          unfold inL
          rw [show bg (sB R b 6 (nI (vl R b - 1))) b 6 = nI (vl R b - 1) from up_s _ _ _]
          exact decide_eq_true (nI_nle (by omega) (by omega))
        have aL : ahead (sB R b 6 (nI (vl R b - 1))) b = ahead R b := by
          unfold ahead
          rw [show bg (sB R b 6 (nI (vl R b - 1))) b 0 = bg R b 0 by simp (disch := omega) only [bg, sB, up_n], show bg (sB R b 6 (nI (vl R b - 1))) b 1 = bg R b 1 by simp (disch := omega) only [bg, sB, up_n]]
        have ww : ∀ s, who (sB R b 6 (nI (vl R b - 1))) s = who R s := fun s => who_mv n5 hR (by rw [iL, yl, aL])
        refine h.mv w hb (j := 0) (by decide) hR (fun k _ _ h3 _ => u2_n h3) (u2_f (by decide)) ?_ (by rw [u2_n (by omega)]) (by rw [u2_n (by omega)]) (by rw [u2_n (by omega), ww]; exact (h.2.1 0 (by decide)).2.2) (fun i _ _ => ww _)
        have hB' := hB
        unfold Ba at hB ⊢
        simp (disch := omega) only [bg, sB, uR_s, up_n, up_s]
        exact ⟨hB.1, hB.2.1, hB.2.2.1, by show bg R b 6 - 1 = _; rw [hv.1, show (1 : Int32) = nI 1 from rfl, nI_sub (by omega)], hB.2.2.2.2⟩
      · rw [if_pos (by omega)] at hK
        intro M18 e18 M19 e19
        subst e19
        subst e18
        subst e16
        refine hK _ (fun i hi => by simp (disch := omega) only [uR_n]) ?_
        have hR : ∀ i, (i < 72 + 7 * b ∨ 72 + 7 * b + 7 ≤ i) → (sB (sB R b 6 0) b 0 (nI (zz R b))) i = R i := fun i hi => by simp (disch := omega) only [sB, up_n]
        have iL : inL (sB (sB R b 6 0) b 0 (nI (zz R b))) b = false := by
          unfold inL
          rw [show bg (sB (sB R b 6 0) b 0 (nI (zz R b))) b 6 = 0 by simp (disch := omega) only [bg, sB, up_n, up_s]]
          decide
        have wj : who (sB (sB R b 6 0) b 0 (nI (zz R b))) (nI (jj R b)) = -1 := by
          unfold who
          refine ff_none (fun d hd => ?_)
          rw [show nb (sB (sB R b 6 0) b 0 (nI (zz R b))) = nb R by unfold nb; rw [hR _ (by omega)]] at hd
          by_cases e : d = b
          · rw [e, iL, Bool.false_and]
          · have g : ∀ f, f < 7 → bg (sB (sB R b 6 0) b 0 (nI (zz R b))) d f = bg R d f := fun f hf => hR _ (by omega)
            have e1 : inL (sB (sB R b 6 0) b 0 (nI (zz R b))) d = inL R d := by unfold inL; rw [g 6 (by decide)]
            have e2 : ahead (sB (sB R b 6 0) b 0 (nI (zz R b))) d = ahead R d := by unfold ahead; rw [g 0 (by decide), g 1 (by decide)]
            rw [e1, e2]
            cases hl : inL R d with
            | false => rfl
            | true =>
              rw [Bool.true_and]
              refine decide_eq_false (fun c => e ?_)
              exact w.2.2.2.1 d b hd hb hl yl (by rw [c, hj.1])
        refine h.mv w hb (j := jj R b) (by omega) hR (fun k _ _ h3 h4 => by simp (disch := omega) only [uR_n]) (by simp (disch := omega) only [uR_n, uR_s, up_n]) ?_ (by simp (disch := omega) only [uR_n, uR_s, up_n]) (by simp (disch := omega) only [uR_n, uR_s, up_n]) (by rw [wj]; simp (disch := omega) only [uR_n, uR_s, up_s]) (fun i hi hne => who_mv n5 hR ?_)
        · unfold Ba at hB ⊢
          simp (disch := omega) only [bg, sB, uR_s, uR_n, up_n, up_s]
          exact ⟨trivial, hB.2.1, hB.2.2.1, by show bg R b 6 - 1 = _; rw [hv.1, show vl R b = 1 by omega, show (1 : Int32) = nI 1 from rfl, nI_sub (by omega)]; rfl, hB.2.2.2.2⟩
        · rw [iL, hj.1, Bool.false_and, decide_eq_false (fun c => hne (nI_inj (by omega) (by omega) c).symm), Bool.and_false]
    · have c1 : vl R b = 0 := Decidable.not_not.1 c1
      have nl : inL R b = false := by rw [il, c1]; rfl
      rw [if_pos c1] at hK
      refine ⟨fun c2 => ?_, fun c2 => ?_⟩
      · rw [if_neg c2] at hK
        refine ⟨fun c3 => ?_, fun c3 => ?_⟩
        · rw [if_neg c3] at hK
          exact hK M (FrC.refl _ _) h
        · rw [if_pos c3] at hK
          intro M13 e13 M14 e14
          have m13 : M13 (c + 6 + jj R b) 0 = R (10 + jj R b) := by rw [e13, u2_f (by decide), hS.1]
          rw [m13] at e14
          subst e14
          subst e13
          obtain ⟨v, v9, ev⟩ := w.1.2.2.2.2.2.2.1 (jj R b) (by omega)
          have hv0 : v ≠ 0 := fun e => c2 (by rw [ev, e]; rfl)
          refine hK _ (fun i hi => by simp (disch := omega) only [uR_n]) ?_
          have hR : ∀ i, (i < 72 + 7 * b ∨ 72 + 7 * b + 7 ≤ i) → (sB R b 6 (R (10 + jj R b))) i = R i := fun i hi => by simp (disch := omega) only [sB, up_n]
          have iL : inL (sB R b 6 (R (10 + jj R b))) b = true := by
            unfold inL
            rw [show bg (sB R b 6 (R (10 + jj R b))) b 6 = nI v by rw [← ev]; exact up_s _ _ _]
            exact decide_eq_true (nI_nle (by omega) (by omega))
          have aL : ahead (sB R b 6 (R (10 + jj R b))) b = ahead R b := by
            unfold ahead
            rw [show bg (sB R b 6 (R (10 + jj R b))) b 0 = bg R b 0 by simp (disch := omega) only [bg, sB, up_n], show bg (sB R b 6 (R (10 + jj R b))) b 1 = bg R b 1 by simp (disch := omega) only [bg, sB, up_n]]
          have hn := who_none c3 n5
          have wj : who (sB R b 6 (R (10 + jj R b))) (nI (jj R b)) = nI b := by
            unfold who
            rw [show nb (sB R b 6 (R (10 + jj R b))) = nb R by unfold nb; rw [hR _ (by omega)]]
            refine ff_some hb (by rw [iL, aL, hj.1]; simp) (fun d hd => ?_)
            have g : ∀ f, f < 7 → bg (sB R b 6 (R (10 + jj R b))) d f = bg R d f := fun f hf => hR _ (by omega)
            have e1 : inL (sB R b 6 (R (10 + jj R b))) d = inL R d := by unfold inL; rw [g 6 (by decide)]
            have e2 : ahead (sB R b 6 (R (10 + jj R b))) d = ahead R d := by unfold ahead; rw [g 0 (by decide), g 1 (by decide)]
            rw [e1, e2]
            cases hl : inL R d with
            | false => rfl
            | true => rw [Bool.true_and]; exact decide_eq_false (hn d (by omega) hl)
          refine h.mv w hb (j := jj R b) (by omega) hR (fun k _ _ h3 h4 => by simp (disch := omega) only [uR_n]) (by simp (disch := omega) only [uR_n, uR_s, up_n]) ?_ (by simp (disch := omega) only [uR_n, uR_s, up_n]) (by simp (disch := omega) only [uR_n, uR_s, up_n]) (by rw [wj]; simp (disch := omega) only [uR_n, uR_s, up_s]) (fun i hi hne => who_mv n5 hR ?_)
          · unfold Ba at hB ⊢
            simp (disch := omega) only [bg, sB, uR_s, uR_n, up_n, up_s]
            exact ⟨hB.1, hB.2.1, hB.2.2.1, trivial, hB.2.2.2.2⟩
          · rw [iL, nl, aL, hj.1, decide_eq_false (fun c => hne (nI_inj (by omega) (by omega) c).symm), Bool.and_false, Bool.and_false]
      · rw [if_pos c2] at hK
        intro M15 e15
        subst e15
        refine hK _ (FrC.u2 (by omega) (by omega)) ?_
        have hR : ∀ i, (i < 72 + 7 * b ∨ 72 + 7 * b + 7 ≤ i) → (sB R b 0 (nI (zz R b))) i = R i := fun i hi => by simp (disch := omega) only [sB, up_n]
        have iL : inL (sB R b 0 (nI (zz R b))) b = false := by
          rw [← nl]
          unfold inL
          rw [show bg (sB R b 0 (nI (zz R b))) b 6 = bg R b 6 by simp (disch := omega) only [bg, sB, up_n]]
        have ww : ∀ s, who (sB R b 0 (nI (zz R b))) s = who R s := fun s => who_mv n5 hR (by rw [iL, nl, Bool.false_and, Bool.false_and])
        refine h.mv w hb (j := 0) (by decide) hR (fun k _ _ h3 _ => u2_n h3) (u2_f (by decide)) ?_ (by rw [u2_n (by omega)]) (by rw [u2_n (by omega)]) (by rw [u2_n (by omega), ww]; exact (h.2.1 0 (by decide)).2.2) (fun i _ _ => ww _)
        unfold Ba at hB ⊢
        simp (disch := omega) only [bg, sB, uR_s, up_n, up_s]
        exact ⟨trivial, hB.2⟩
  rw [hB.1, hB.2.1, h1.1, h2.1, nI_leI (by omega) (by omega)]
  refine ⟨fun e => ?_, fun e => ?_⟩
  · rw [show (1 : Int32) = nI 1 from rfl, nI_sub (by omega)]
    unfold zz at key
    rw [if_pos e] at key
    exact key
  · rw [nI_1]
    unfold zz at key
    rw [if_neg e] at key
    exact key
end MOVE
