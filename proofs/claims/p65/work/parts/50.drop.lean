/-! drop -/
section DROP
variable {M M' : TM} {r c T k : Nat} {R R' : Nat → Int32} {K : Int32 → TM → Prop} {KV : TM → Prop} {p q u s : Int32} {b d o f j a t x : Nat} {l : List Nat}
theorem aD_x (hx : x ≠ o) (hf : f < 9) : og (aDrop R o) x f = og R x f := by simp (disch := omega) only [aDrop, og, sO, up_n]
theorem aD_f (R : Nat → Int32) (o : Nat) : og (aDrop R o) o 0 = og R o 0 ∧ og (aDrop R o) o 1 = og R o 1 ∧ og (aDrop R o) o 2 = og R o 2 ∧ og (aDrop R o) o 3 = og R o 3 ∧ og (aDrop R o) o 4 = 0 ∧ og (aDrop R o) o 5 = -1 ∧ og (aDrop R o) o 6 = 0 ∧ og (aDrop R o) o 7 = og R o 2 := by
  refine ⟨?_, ?_, ?_, ?_, ?_, ?_, ?_, ?_⟩ <;> simp (disch := omega) only [aDrop, og, sO, up_n, up_s]
theorem aD_i {i : Nat} (h : i < 107 + 9 * o ∨ 107 + 9 * o + 9 ≤ i) : aDrop R o i = R i := by simp (disch := omega) only [aDrop, sO, up_n]
theorem aD_no : no (aDrop R o) = no R := by unfold no; rw [aD_i (by omega)]
theorem aD_bel (hx : x ≠ o) : bel (aDrop R o) x q s = bel R x q s := by unfold bel; rw [aD_x hx (by decide), aD_x hx (by decide)]
theorem aD_belo (h : s ≠ 0) : bel (aDrop R o) o q s = false := by unfold bel; rw [(aD_f R o).2.2.2.2.1, decide_eq_false (fun c => h c.symm), Bool.false_and]
theorem held_st (hh : isHeld R o = true) : og R o 4 = 1 ∨ og R o 4 = 2 := by
  unfold isHeld at hh
  rw [Bool.or_eq_true, decide_eq_true_eq, decide_eq_true_eq] at hh
  exact hh
theorem aD_cIn (hh : isHeld R o = true) (h0 : s ≠ 0) (h1 : s ≠ 1) (h2 : s ≠ 2) : cIn (aDrop R o) s = cIn R s := by
  unfold cIn
  rw [aD_no]
  refine cn_congr _ (fun k hk => ?_)
  by_cases e : k = o
  · subst e
    rw [(aD_f R k).2.2.2.2.1, decide_eq_false (fun c => h0 c.symm)]
    rcases held_st hh with h | h <;> rw [h]
    · rw [decide_eq_false (fun c => h1 c.symm)]
    · rw [decide_eq_false (fun c => h2 c.symm)]
  · rw [aD_x e (by decide)]
theorem wf_drop (w : WF T R) (ho : o < no R) (hh : isHeld R o = true) : WF T (aDrop R o) := by
  have n5 := w.nb5
  have n30 := w.no30
  obtain ⟨tu, ht, e8⟩ := w.1.2.2.2.2.1
  have np' : np (aDrop R o) = np R := by unfold np; rw [aD_i (by omega)]
  refine w.ord (o := o) (fun i h1 h2 => aD_i h2) (aD_i (by omega)) (aD_i (by omega)) (aD_i (by omega)) (aD_i (by omega)) ⟨tu, ht, by rw [aD_i (by omega)]; exact e8, by rw [aD_i (by omega)]; exact Nat.le_refl _⟩ (fun j hj => aD_i (by omega)) (fun j hj => ⟨aD_i (by omega), aD_i (by omega)⟩) ?_ ?_ (fun d hd => ?_) (fun x y hx hy hx4 hy4 he => ?_)
  · rw [aD_i (by omega), aD_cIn hh (by decide) (by decide) (by decide)]
    exact w.1.2.2.2.2.2.1
  · obtain ⟨p, s, a1, a2, a3, a4, a5, a6, a7, a8⟩ := w.2.2.1 o ho
    obtain ⟨f0, f1, f2, f3, f4, f5, f6, f7⟩ := aD_f R o
    exact ⟨p, 0, by rw [np']; exact a1, by decide, by rw [f0]; exact a3, f4, Or.inl f6, fun e => by omega, fun _ => f5, fun e => by omega⟩
  · refine Nat.le_trans ?_ (w.2.2.2.2.1 d hd)
    unfold held
    rw [aD_no]
    refine cn_mono _ (fun k hk h => ?_)
    by_cases e : k = o
    · subst e; rw [aD_belo (by decide), aD_belo (by decide)] at h; cases h
    · rw [aD_bel e, aD_bel e] at h; exact h
  · rw [aD_no] at hx hy
    have ex : x ≠ o := fun e => by subst e; rw [(aD_f R x).2.2.2.2.1] at hx4; exact absurd hx4 (by decide)
    have ey : y ≠ o := fun e => by subst e; rw [(aD_f R y).2.2.2.2.1] at hy4; exact absurd hy4 (by decide)
    rw [aD_x ex (by decide)] at hx4
    rw [aD_x ey (by decide)] at hy4
    rw [aD_x ex (by decide), aD_x ey (by decide)] at he
    exact w.2.2.2.2.2 x y hx hy hx4 hy4 he
theorem okD_of (w : WF T R) (ok : okD R p = true) : ∃ o, o < no R ∧ p = nI o ∧ isHeld R o = true := by
  have n30 := w.no30
  unfold okD at ok
  rw [Bool.and_eq_true] at ok
  obtain ⟨o, ho, rfl⟩ := inR_of (by omega) ok.1
  exact ⟨o, ho, rfl, by have := ok.2; rw [nI_clamp (by omega)] at this; exact this⟩
theorem c_canReopen (w : WF T R) (h : RelC c M R) (hK : K (bi (okD R p)) M) : f_X2_canReopen c p M K := by
  unfold f_X2_canReopen
  have n30 := w.no30
  refine c_hasOrder w h ?_
  refine bF (fun hp => ?_) (fun hp => K_of hK (by simp [okD, hp, bi]))
  obtain ⟨o, ho, rfl⟩ := inR_of (by omega) hp
  rw [nI_clamp (by omega)]
  unfold okD at hK
  rw [hp, nI_clamp (by omega), Bool.true_and] at hK
  refine ⟨vp_in_nI (by omega) (by decide), ?_⟩
  refine c_isHeld w h ho ?_
  exact bF (fun h1 => K_of hK (by rw [h1]; rfl)) (fun h0 => K_of hK (by rw [h0]; rfl))
/-- what an order leaves behind: the cells of its barge's queue, the order's own, accounts -/
theorem RelC.leave (h : RelC c M R) (w : WF T R) (ho : o < no R) (hb : b < nb R) (e5 : og R o 5 = nI b) (hR : ∀ i, 72 ≤ i → (i < 107 + 9 * o ∨ 107 + 9 * o + 9 ≤ i) → R' i = R i) (r2 : R' 2 = R 2) (r3 : R' 3 = R 3)
    (hl : ∀ j, j < 15 → R' (10 + j) = R (10 + j) ∧ R' (25 + j) = R (25 + j)) (hu : ∀ j, j < 16 → R' (40 + j) = R (40 + j) ∧ R' (56 + j) = R (56 + j)) (h4 : og R' o 4 ≠ 1)
    (hM : ∀ i, i ≠ c → i ≠ c + 31 + o → i ≠ c + 21 + 2 * b → i ≠ c + 21 + 2 * b + 1 → M' i = M i) (h7 : ∀ f, f < 7 → M' (c + 21 + 2 * b) f = M (c + 21 + 2 * b) f) (hq : ∀ R' : Nat → Int32, no R' = no R → (∀ x, x < no R → bel R' x (nI b) 1 = (bel R x (nI b) 1 && decide (x ≠ o))) → (∀ x, x < no R → x ≠ o → og R' x 8 = og R x 8) → Qu (c + 21 + 2 * b) M' R' b) (hs : Sc c M' R') (hO : Or (c + 31 + o) M' R' o) : RelC c M' R' := by
  have n5 := w.nb5
  have n30 := w.no30
  have no' : no R' = no R := by unfold no; rw [r3]
  have gx : ∀ x, x < no R → x ≠ o → ∀ f, f < 9 → og R' x f = og R x f := fun x hx hne f hf => hR _ (by omega) (by omega)
  have bx : ∀ x, x < no R → x ≠ o → ∀ q s, bel R' x q s = bel R x q s := fun x hx hne q s => by unfold bel; rw [gx x hx hne 4 (by decide), gx x hx hne 5 (by decide)]
  have bo : ∀ q, bel R' o q 1 = false := fun q => by unfold bel; rw [decide_eq_false h4, Bool.false_and]
  refine h.ord (o := o) n5 n30 hR r2 r3 hl hu (fun k h1 h2 => hM k (by omega) (by omega) (by omega) (by omega)) (fun d hd f hf => ?_) (fun d hd => ?_) (fun x hx hne => hM _ (by omega) (by omega) (by omega) (by omega)) hs (fun _ => hO)
  · by_cases e : d = b
    · subst e; exact h7 f hf
    · rw [hM _ (by omega) (by omega) (by omega) (by omega)]
  · by_cases e : d = b
    · subst e
      refine hq R' no' (fun x hx => ?_) (fun x hx hne => gx x hx hne 8 (by decide))
      by_cases e : x = o
      · subst e; rw [bo]; simp
      · rw [bx x hx e, decide_eq_true e, Bool.and_true]
    · refine (h.2.2.2.2.1 d hd).congr (by rw [hM _ (by omega) (by omega) (by omega) (by omega)]) (by rw [hM _ (by omega) (by omega) (by omega) (by omega)]) (fun l hl => hl.same no' (fun x hx => ?_) (fun x hx hbx => ?_))
      · by_cases e' : x = o
        · subst e'
          rw [bo]
          unfold bel
          rw [e5, decide_eq_false (fun c => e (nI_inj (by omega) (by omega) c).symm), Bool.and_false]
        · rw [bx x hx e']
      · by_cases e' : x = o
        · subst e'
          unfold bel at hbx
          rw [e5, decide_eq_false (fun c => e (nI_inj (by omega) (by omega) c).symm), Bool.and_false] at hbx
          cases hbx
        · exact gx x hx e' 8 (by decide)
theorem WO.hb (w : WF T R) (ho : o < no R) (hh : isHeld R o = true) : ∃ b, b < nb R ∧ og R o 5 = nI b := by
  obtain ⟨p, s, a1, a2, a3, a4, a5, a6, a7, a8⟩ := w.2.2.1 o ho
  refine a6 ?_
  rcases held_st hh with h | h
  · exact Or.inl (nI_inj (b := 1) (by omega) (by decide) (a4.symm.trans h))
  · exact Or.inr (nI_inj (b := 2) (by omega) (by decide) (a4.symm.trans h))
theorem c_reopen (w : WF T R) (h : RelC c M R) (ho : o < no R) (hh : isHeld R o = true) (hK : ∀ M', FrC c M M' → RelC c M' (aDrop R o) → KV M') : f_X2_reopen c (nI o) M KV := by
  unfold f_X2_reopen
  have n5 := w.nb5
  have n30 := w.no30
  refine c_hasOrder w h ?_
  rw [inR_nI ho (by omega)]
  refine bF (fun _ => ?_) (fun c => by cases c)
  refine c_remQ w h ho (fun e => ?_) (fun b hb e5 M1 m1 m2 m3 => ?_)
  · obtain ⟨b, hb, e5⟩ := WO.hb w ho hh
    rw [e5] at e
    exact absurd e (nI_m1 (by omega))
  refine ⟨vp_in_nI (by omega) (by decide), ?_⟩
  rw [nI_clamp (by omega)]
  unfold f_X6_open
  intro M3 e3 M4 e4 M5 e5' M6 e6
  subst e6; subst e5'; subst e4; subst e3
  refine hK _ (fun i hi => by simp (disch := omega) only [uR_n]; exact m1 i (by omega) (by omega)) ?_
  refine h.leave w ho hb e5 (fun i h1 h2 => aD_i h2) (aD_i (by omega)) (aD_i (by omega)) (fun j hj => ⟨aD_i (by omega), aD_i (by omega)⟩) (fun j hj => ⟨aD_i (by omega), aD_i (by omega)⟩) (by rw [(aD_f R o).2.2.2.2.1]; decide) (fun i h1 h2 h3 h4 => by simp (disch := omega) only [uR_n]; exact m1 i (by omega) (by omega)) (fun f hf => by simp (disch := omega) only [uR_n]; exact m2 f (by omega)) (fun R' r1 r2 r3 => m3 R' r1 r2 r3 _ (by simp (disch := omega) only [uR_n]) (by simp (disch := omega) only [uR_n])) ?_ ?_
  · unfold Sc
    rw [aD_cIn hh (by decide) (by decide) (by decide)]
    simp (disch := omega) only [uR_n, aD_i]
    rw [m1 c (by omega) (by omega)]
    exact h.1
  · have hO := h.2.2.2.2.2 o ho
    obtain ⟨f0, f1, f2, f3, f4, f5, f6, f7⟩ := aD_f R o
    unfold Or at hO ⊢
    rw [f0, f1, f2, f3, f4, f5, f6, f7]
    simp (disch := omega) only [uR_s, up_n, up_s]
    rw [m1 _ (by omega) (by omega)]
    exact ⟨hO.1, hO.2.1, hO.2.2.1, hO.2.2.1, hO.2.2.2.2.1, bz_0, trivial, trivial⟩
theorem m_doDrop (hr : Rw M r) (w : WF T R) (h1 : inR p (no R) = false → K 1 (uR M r R)) (h2 : inR p (no R) = true → okD R p = false → K 2 (uR M r R)) (h0 : okD R p = true → K 0 (uR (u2 M 699 10 (og R p.toNatClampNeg 5)) r (aDrop R p.toNatClampNeg))) : f_X13_doDrop p (uR M r R) K := by
  unfold f_X13_doDrop
  have n30 := w.no30
  refine m_isOrder hr w.ix ?_
  refine bT (fun hp => ?_) (fun hp => h1 hp)
  obtain ⟨o, ho, rfl⟩ := inR_of (by omega) hp
  unfold okD at h0 h2
  rw [hp, nI_clamp (by omega)] at h0 h2
  have key : isHeld R o = true → f_X13_doDrop_L30 (nI o) K (nI o) (uR M r R) := fun hh => by
    replace h0 := h0 (by rw [hh]; rfl)
    unfold f_X13_doDrop_L30
    refine m_ofO hr rfl (f := 5) rfl (by omega) (by decide) ?_
    intro M11 e11
    rw [e11, u2_sw hr.lt]
    have hr2 := Rw.u M (j := 10) (og R o 5) (by decide) hr
    refine m_layO hr2 rfl (f := 4) rfl (by omega) (by decide) ?_
    refine m_layO hr2 rfl (f := 5) rfl (by omega) (by decide) ?_
    refine m_layO hr2 rfl (f := 6) rfl (by omega) (by decide) ?_
    refine m_ofO hr2 rfl (f := 2) rfl (by omega) (by decide) ?_
    refine m_layO hr2 rfl (f := 7) rfl (by omega) (by decide) ?_
    have e2 : og (sO (sO (sO R o 4 0) o 5 (-1)) o 6 0) o 2 = og R o 2 := by simp (disch := omega) only [og, sO, up_n]
    rw [e2]
    exact h0
  refine m_isIn hr rfl (by omega) ?_
  refine pT (fun c1 => key (by unfold isHeld; rw [decide_eq_true c1]; rfl)) (fun c1 => ?_)
  refine m_isIn hr rfl (by omega) ?_
  exact pT (fun c2 => key (by unfold isHeld; rw [decide_eq_true c2, Bool.or_true])) (fun c2 => h2 rfl (by unfold isHeld; rw [decide_eq_false c1, decide_eq_false c2]; rfl))
end DROP
