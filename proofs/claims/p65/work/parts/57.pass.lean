/-! orders expire; a minute; minutes -/
def aX (R : Nat → Int32) (o : Nat) : Nat → Int32 := upd (upd (sO (sO R o 4 4) o 5 (-1)) 4 (R 4 - 2)) 6 (R 6 + 1)
def pmR (R : Nat → Int32) : Nat → Int32 :=
  let R2 := svR (fo (fun b a => plR a b) (nb (fo (fun b a => stM a b) (nb R) R)) (fo (fun b a => stM a b) (nb R) R))
  let R3 := fo (fun o a => exR o a) (no R2) R2
  upd R3 0 (R3 0 + 1)
def pm (R : Nat → Int32) : Nat → Int32 := if R 0 = 10000 then R else pmR R
section PASS
variable {i : Nat} {M M' : TM} {r c T k : Nat} {R R' : Nat → Int32} {K : Int32 → TM → Prop} {KV : TM → Prop} {p q u s v : Int32} {b d o f j a t x m : Nat} {l : List Nat}
theorem aX_x (hx : x ≠ o) (hf : f < 9) : og (aX R o) x f = og R x f := by
  have : 107 + 9 * x + f ≠ 4 := by omega
  simp (disch := omega) only [aX, og, sO, up_n]
theorem aX_f (R : Nat → Int32) (o : Nat) (h4 : f ≠ 4) (h5 : f ≠ 5) (hf : f < 9) : og (aX R o) o f = og R o f := by simp (disch := omega) only [aX, og, sO, up_n]
theorem aX_4 (R : Nat → Int32) (o : Nat) : og (aX R o) o 4 = 4 := by simp (disch := omega) only [aX, og, sO, up_n, up_s]
theorem aX_5 (R : Nat → Int32) (o : Nat) : og (aX R o) o 5 = -1 := by simp (disch := omega) only [aX, og, sO, up_n, up_s]
theorem aX_i (h : i < 107 + 9 * o ∨ 107 + 9 * o + 9 ≤ i) (h4 : i ≠ 4) (h6 : i ≠ 6) : aX R o i = R i := by simp (disch := omega) only [aX, sO, up_n]
theorem aX_s4 : aX R o 4 = R 4 - 2 := by simp (disch := omega) only [aX, up_n, up_s]
theorem aX_s6 : aX R o 6 = R 6 + 1 := up_s _ _ _
theorem aX_no : no (aX R o) = no R := by unfold no; rw [aX_i (by omega) (by decide) (by decide)]
theorem alive_st (w : WF T R) (ho : o < no R) (h : alive R o = true) : og R o 4 = 0 ∨ og R o 4 = 1 ∨ og R o 4 = 2 := by
  rw [alive_iff w ho, Bool.or_eq_true, decide_eq_true_eq] at h
  rcases h with h | h
  · exact Or.inl h
  · exact Or.inr (held_st h)
theorem aX_cIn3 (w : WF T R) (ho : o < no R) (h : alive R o = true) : cIn (aX R o) 3 = cIn R 3 := by
  unfold cIn
  rw [aX_no]
  refine cn_congr _ (fun k hk => ?_)
  by_cases e : k = o
  · subst e
    rw [aX_4]
    rcases alive_st w ho h with h | h | h <;> rw [h] <;> decide
  · rw [aX_x e (by decide)]
theorem aX_cIn4 (w : WF T R) (ho : o < no R) (h : alive R o = true) : cIn (aX R o) 4 = cIn R 4 + 1 := by
  unfold cIn
  rw [aX_no]
  refine cn_off _ o ho (fun k hk hne => by rw [aX_x hne (by decide)]) ?_ (by rw [aX_4]; decide)
  rcases alive_st w ho h with h | h | h <;> rw [h] <;> decide
theorem aX_belo (h : s ≠ 4) : bel (aX R o) o q s = false := by unfold bel; rw [aX_4, decide_eq_false (fun c => h c.symm), Bool.false_and]
theorem aX_bel (hx : x ≠ o) : bel (aX R o) x q s = bel R x q s := by unfold bel; rw [aX_x hx (by decide), aX_x hx (by decide)]
theorem wf_ex (w : WF T R) (ho : o < no R) (h : alive R o = true) : WF T (aX R o) := by
  have n5 := w.nb5
  have n30 := w.no30
  obtain ⟨tu, ht, e8⟩ := w.1.2.2.2.2.1
  have np' : np (aX R o) = np R := by unfold np; rw [aX_i (by omega) (by decide) (by decide)]
  refine w.ord (R' := aX R o) (o := o) (fun i h1 h2 => aX_i h2 (by omega) (by omega)) (aX_i (by omega) (by decide) (by decide)) (aX_i (by omega) (by decide) (by decide)) (aX_i (by omega) (by decide) (by decide)) (aX_i (by omega) (by decide) (by decide)) ⟨tu, ht, by rw [aX_i (by omega) (by decide) (by decide)]; exact e8, by rw [aX_i (by omega) (by decide) (by decide)]; exact Nat.le_refl _⟩ (fun j hj => aX_i (by omega) (by omega) (by omega)) (fun j hj => ⟨aX_i (by omega) (by omega) (by omega), aX_i (by omega) (by omega) (by omega)⟩) ?_ ?_ (fun d hd => ?_) (fun x y hx hy hx4 hy4 he => ?_)
  · rw [aX_s6, w.1.2.2.2.2.2.1, aX_cIn4 w ho h, nI_1]
  · obtain ⟨p, s, a1, a2, a3, a4, a5, a6, a7, a8⟩ := w.2.2.1 o ho
    exact ⟨p, 4, by rw [np']; exact a1, by decide, by rw [aX_f R o (by decide) (by decide) (by decide)]; exact a3, aX_4 R o, by rw [aX_f R o (by decide) (by decide) (by decide)]; exact a5, fun e => by omega, fun _ => aX_5 R o, fun e => by omega⟩
  · refine Nat.le_trans ?_ (w.2.2.2.2.1 d hd)
    unfold held
    rw [aX_no]
    refine cn_mono _ (fun k hk h => ?_)
    by_cases e : k = o
    · subst e; rw [aX_belo (by decide), aX_belo (by decide)] at h; cases h
    · rw [aX_bel e, aX_bel e] at h; exact h
  · rw [aX_no] at hx hy
    have ex : x ≠ o := fun e => by subst e; rw [aX_4] at hx4; exact absurd hx4 (by decide)
    have ey : y ≠ o := fun e => by subst e; rw [aX_4] at hy4; exact absurd hy4 (by decide)
    rw [aX_x ex (by decide)] at hx4
    rw [aX_x ey (by decide)] at hy4
    rw [aX_x ex (by decide), aX_x ey (by decide)] at he
    exact w.2.2.2.2.2 x y hx hy hx4 hy4 he
/-- the class lets an order expire -/
theorem c_ex (w : WF T R) (h : RelC c M R) (ho : o < no R) (hal : alive R o = true) (hK : ∀ M', FrC c M M' → RelC c M' (aX R o) → KV M') : f_X2_removeFromQueue c (nI o) M (fun M9 => vp_in (nI o) 30 ∧ f_X6_finish (c + 31 + o) (4 : Int32) M9 (fun M11 => ∀ M12, M12 = u2 M11 c 9 ((M11 c 9) - (2 : Int32)) → ∀ M13, M13 = u2 M12 c 13 ((M12 c 13) + (1 : Int32)) → KV M13)) := by
  have n5 := w.nb5
  have n30 := w.no30
  have hO := h.2.2.2.2.2 o ho
  have hs := h.1
  unfold Sc at hs
  have sc : ∀ M9 : TM, M9 c = M c → ∀ M13 : TM, M13 c = (u2 (u2 M9 c 9 (R 4 - 2)) c 13 (R 6 + 1)) c → Sc c M13 (aX R o) := fun M9 e M13 e13 => by
    unfold Sc
    rw [e13, aX_cIn3 w ho hal, aX_s4, aX_s6, aX_i (by omega) (by decide) (by decide), aX_i (by omega) (by decide) (by decide), aX_i (by omega) (by decide) (by decide), aX_i (by omega) (by decide) (by decide), aX_i (by omega) (by decide) (by decide), aX_i (by omega) (by decide) (by decide)]
    simp (disch := omega) only [uR_s, up_s, up_n]
    rw [e]
    exact ⟨hs.1, hs.2.1, hs.2.2.1, hs.2.2.2.1, trivial, hs.2.2.2.2.2.1, hs.2.2.2.2.2.2.1, hs.2.2.2.2.2.2.2.1, trivial⟩
  have orr : ∀ M13 : TM, M13 (c + 31 + o) = (u2 (u2 M (c + 31 + o) 6 4) (c + 31 + o) 7 (-1)) (c + 31 + o) → Or (c + 31 + o) M13 (aX R o) o := fun M13 e13 => by
    unfold Or at hO ⊢
    rw [e13, aX_4, aX_5, aX_f R o (by decide) (by decide) (by decide), aX_f R o (by decide) (by decide) (by decide), aX_f R o (by decide) (by decide) (by decide), aX_f R o (by decide) (by decide) (by decide), aX_f R o (by decide) (by decide) (by decide), aX_f R o (by decide) (by decide) (by decide)]
    simp (disch := omega) only [uR_s, up_s, up_n]
    exact ⟨hO.1, hO.2.1, hO.2.2.1, hO.2.2.2.1, hO.2.2.2.2.1, hO.2.2.2.2.2.1, trivial, trivial⟩
  refine c_remQ w h ho (fun e5 => ?_) (fun b hb e5 M1 m1 m2 m3 => ?_)
  · refine ⟨vp_in_nI (by omega) (by decide), ?_⟩
    unfold f_X6_finish
    intro M1 e1 M2 e2 M12 e12 M13 e13
    have v2 : M2 c 9 = R 4 ∧ M2 c 13 = R 6 := by rw [e2, u2_n (by omega), e1, u2_n (by omega)]; exact ⟨hs.2.2.2.2.1, hs.2.2.2.2.2.2.2.2⟩
    rw [v2.1] at e12
    have v12 : M12 c 13 = R 6 := by rw [e12, u2_f (by decide)]; exact v2.2
    rw [v12] at e13
    have e2c : M2 c = M c := by rw [e2, u2_n (by omega), e1, u2_n (by omega)]
    subst e13; subst e12
    have fr : ∀ k, k ≠ c → k ≠ c + 31 + o → (u2 (u2 M2 c 9 (R 4 - 2)) c 13 (R 6 + 1)) k = M k := fun k h1 h2 => by rw [u2_n h1, u2_n h1, e2, u2_n h2, e1, u2_n h2]
    refine hK _ (fun k hk => fr k (by omega) (by omega)) ?_
    refine h.ord (R' := aX R o) (o := o) n5 n30 (fun i h1 h2 => aX_i h2 (by omega) (by omega)) (aX_i (by omega) (by decide) (by decide)) (aX_i (by omega) (by decide) (by decide)) (fun j hj => ⟨aX_i (by omega) (by omega) (by omega), aX_i (by omega) (by omega) (by omega)⟩) (fun j hj => ⟨aX_i (by omega) (by omega) (by omega), aX_i (by omega) (by omega) (by omega)⟩) (fun k h1 h2 => fr k (by omega) (by omega)) (fun d hd f hf => by rw [fr _ (by omega) (by omega)]) (fun d hd => ?_) (fun x hx hne => fr _ (by omega) (by omega)) (sc M2 e2c _ rfl) (fun _ => orr _ (by rw [u2_n (by omega), u2_n (by omega), e2, e1]))
    have nbel : ∀ d, d < nb R → bel R o (nI d) 1 = false := fun d hd => by
      have hne : ¬ (-1 : Int32) = nI d := fun c => nI_m1 (by omega) c.symm
      unfold bel; rw [e5, decide_eq_false hne, Bool.and_false]
    refine (h.2.2.2.2.1 d hd).congr (by rw [fr _ (by omega) (by omega)]) (fr _ (by omega) (by omega)) (fun l hl => hl.same aX_no (fun x hx => ?_) (fun x hx hb => ?_))
    · by_cases e : x = o
      · subst e; rw [nbel d hd, aX_belo (by decide)]
      · rw [aX_bel e]
    · by_cases e : x = o
      · subst e; rw [nbel d hd] at hb; cases hb
      · exact aX_x e (by decide)
  · refine ⟨vp_in_nI (by omega) (by decide), ?_⟩
    unfold f_X6_finish
    intro M2 e2 M3 e3 M12 e12 M13 e13
    have e3c : M3 c = M c := by rw [e3, u2_n (by omega), e2, u2_n (by omega), m1 c (by omega) (by omega)]
    rw [e3c, hs.2.2.2.2.1] at e12
    have v12 : M12 c 13 = R 6 := by rw [e12, u2_f (by decide), e3c]; exact hs.2.2.2.2.2.2.2.2
    rw [v12] at e13
    subst e13; subst e12
    have fr : ∀ k, k ≠ c → k ≠ c + 31 + o → (u2 (u2 M3 c 9 (R 4 - 2)) c 13 (R 6 + 1)) k = M1 k := fun k h1 h2 => by rw [u2_n h1, u2_n h1, e3, u2_n h2, e2, u2_n h2]
    refine hK _ (fun k hk => by rw [fr k (by omega) (by omega)]; exact m1 k (by omega) (by omega)) ?_
    refine h.leave (R' := aX R o) w ho hb e5 (fun i h1 h2 => aX_i h2 (by omega) (by omega)) (aX_i (by omega) (by decide) (by decide)) (aX_i (by omega) (by decide) (by decide)) (fun j hj => ⟨aX_i (by omega) (by omega) (by omega), aX_i (by omega) (by omega) (by omega)⟩) (fun j hj => ⟨aX_i (by omega) (by omega) (by omega), aX_i (by omega) (by omega) (by omega)⟩) (by rw [aX_4]; decide) (fun i h1 h2 h3 h4 => by rw [fr i h1 h2]; exact m1 i h3 h4) (fun f hf => by rw [fr _ (by omega) (by omega)]; exact m2 f (by omega)) (fun R' r1 r2 r3 => m3 R' r1 r2 r3 _ (by rw [fr _ (by omega) (by omega)]) (fr _ (by omega) (by omega))) (sc M3 e3c _ rfl) (orr _ ?_)
    rw [u2_n (by omega), u2_n (by omega), e3, e2]
    rw [u2_id, u2_id, uR_s, uR_s, u2_id, u2_id, uR_s, uR_s, m1 _ (by omega) (by omega)]
theorem ex_w (w : WF T R) (ho : o < no R) : WF T (exR o R) ∧ exR o R 0 = R 0 ∧ exR o R 1 = R 1 ∧ exR o R 2 = R 2 ∧ exR o R 3 = R 3 ∧ cIn (exR o R) 3 = cIn R 3 := by
  unfold exR
  split
  · rename_i h
    exact ⟨wf_ex w ho h.1, aX_i (by omega) (by decide) (by decide), aX_i (by omega) (by decide) (by decide), aX_i (by omega) (by decide) (by decide), aX_i (by omega) (by decide) (by decide), aX_cIn3 w ho h.1⟩
  · exact ⟨w, rfl, rfl, rfl, rfl, rfl⟩
theorem foX (w : WF T R) : ∀ k, k ≤ no R → WF T (fo (fun o a => exR o a) k R) ∧ fo (fun o a => exR o a) k R 0 = R 0 ∧ fo (fun o a => exR o a) k R 1 = R 1 ∧ fo (fun o a => exR o a) k R 2 = R 2 ∧ fo (fun o a => exR o a) k R 3 = R 3 ∧ cIn (fo (fun o a => exR o a) k R) 3 = cIn R 3 := by
  intro k
  induction k with
  | zero => intro _; exact ⟨w, rfl, rfl, rfl, rfl, rfl⟩
  | succ k ih =>
    intro hk
    obtain ⟨i1, i0, i2, i3, i4, i5⟩ := ih (by omega)
    obtain ⟨g1, g0, g2, g3, g4, g5⟩ := ex_w (o := k) i1 (by unfold no at hk ⊢; rw [i4]; omega)
    exact ⟨g1, g0.trans i0, g2.trans i2, g3.trans i3, g4.trans i4, g5.trans i5⟩
theorem c_expireAll (w : WF T R) (h : RelC c M R) (hK : ∀ M', FrC c M M' → RelC c M' (fo (fun o a => exR o a) (no R) R) → KV M') : f_X2_expireOrders c M KV := by
  unfold f_X2_expireOrders
  have n30 := w.no30
  refine ⟨_, inv_loop (fun n (s : TM) k => f_X2_expireOrders_L2 c KV n (nI k) s) (fun k s => FrC c M s ∧ RelC c s (fo (fun o a => exR o a) k R)) (no R) (fun n s hs => ?_) (fun n s k hk hs hL => ?_) (no R) 0 M (Nat.zero_add _) ⟨FrC.refl _ _, h⟩⟩
  · obtain ⟨w', f0, f1, f2, f3, f4⟩ := foX w (no R) (Nat.le_refl _)
    rw [f_X2_expireOrders_L2, hs.2.1.2.2.1, f3, w.1.1.2.2.1]
    exact cT' (nI_le (Nat.le_refl _) (by omega)) (hK s hs.1 hs.2)
  · obtain ⟨w', f0, f1, f2, f3, f4⟩ := foX w k (by omega)
    obtain ⟨hs1, hs2⟩ := hs
    rw [f_X2_expireOrders_L2, hs2.1.2.2.1, f3, w.1.1.2.2.1]
    have hk' : k < no (fo (fun o a => exR o a) k R) := by unfold no; rw [f3]; exact hk
    have hO := hs2.2.2.2.2.2 k hk'
    refine cN' (nI_ge hk (by omega)) ⟨vp_in_nI (by omega) (by decide), ?_⟩
    rw [nI_clamp (by omega), nI_1, hO.2.2.2.2.1, hs2.1.2.2.2.1]
    have e : fo (fun o a => exR o a) (k + 1) R = exR k (fo (fun o a => exR o a) k R) := rfl
    have e2 : ∀ Q : Nat → Int32, exR k Q = if alive Q k = true ∧ og Q k 3 = Q 0 then aX Q k else Q := fun _ => rfl
    refine ⟨fun c1 => hL s ⟨hs1, by rw [e, e2, if_neg (fun c => c1 c.2)]; exact hs2⟩, fun c1 => ⟨vp_in_nI (by omega) (by decide), ?_⟩⟩
    refine c_alive w' hs2 hk' ?_
    refine bF (fun c2 => ?_) (fun c2 => hL s ⟨hs1, by rw [e, e2, if_neg (fun c => by rw [c2] at c; cases c.1)]; exact hs2⟩)
    refine c_ex w' hs2 hk' c2 (fun M' f' h' => hL M' ⟨hs1.trans f', ?_⟩)
    rw [e, e2, if_pos ⟨c2, c1⟩]
    exact h'
theorem m_expireAll (hr : Rw M r) (w : WF T R) (h : KV (uR M r (fo (fun o a => exR o a) (no R) R))) : f_X13_expire (uR M r R) KV := by
  unfold f_X13_expire
  have n30 := w.no30
  refine ⟨_, inv_loop (fun n (s : TM) k => f_X13_expire_L2 KV n (nI k) s) (fun k s => s = uR M r (fo (fun o a => exR o a) k R)) (no R) (fun n s hs => ?_) (fun n s k hk hs hL => ?_) (no R) 0 _ (Nat.zero_add _) rfl⟩
  · obtain ⟨w', f0, f1, f2, f3, f4⟩ := foX w (no R) (Nat.le_refl _)
    subst hs
    rw [f_X13_expire_L2, hr.no w'.ix, show no (fo (fun o a => exR o a) (no R) R) = no R by show (fo (fun o a => exR o a) (no R) R 3).toNatClampNeg = _; rw [f3]; rfl]
    exact ⟨hr.v _, vv3, cT' (nI_le (Nat.le_refl _) (by omega)) h⟩
  · obtain ⟨w', f0, f1, f2, f3, f4⟩ := foX w k (by omega)
    subst hs
    obtain ⟨Q, hQ⟩ : ∃ Q, Q = fo (fun o a => exR o a) k R := ⟨_, rfl⟩
    have e : fo (fun o a => exR o a) (k + 1) R = exR k Q := by rw [hQ]; rfl
    rw [e] at hL
    rw [← hQ] at w' f0 f1 f2 f3 f4 ⊢
    have no' : no Q = no R := by unfold no; rw [f3]
    rw [f_X13_expire_L2, hr.no w'.ix, no']
    refine ⟨hr.v _, vv3, cN' (nI_ge hk (by omega)) ?_⟩
    refine m_alive hr rfl (by omega) ?_
    rw [nI_1]
    unfold exR at hL
    refine bF (fun c2 => ?_) (fun c2 => hL _ (by rw [if_neg (fun c => by rw [c2] at c; cases c.1)]))
    refine m_ofO hr rfl (f := 3) rfl (by omega) (by decide) ?_
    refine ⟨hr.v _, vv0, ?_⟩
    rw [hr.rd (x := 0) (i := 0) rfl (by decide)]
    refine ⟨fun c1 => hL _ (by rw [if_neg (fun c => c1 c.2)]), fun c1 => ?_⟩
    refine m_layO hr rfl (f := 4) rfl (by omega) (by decide) ?_
    refine m_layO hr rfl (f := 5) rfl (by omega) (by decide) ?_
    refine ⟨hr.v _, vv4, vv4, ?_⟩
    intro M18 e18
    rw [hr.rd (x := 4) (i := 4) rfl (by decide), hr.c, show ((4 : Int32)).toNatClampNeg = 4 from rfl, u2_uR, show (sO (sO Q k 4 4) k 5 (-1)) 4 = Q 4 by simp (disch := omega) only [sO, up_n]] at e18
    subst e18
    refine ⟨hr.v _, vv6, vv6, ?_⟩
    intro M22 e22
    rw [hr.rd (x := 6) (i := 6) rfl (by decide), hr.c, show ((6 : Int32)).toNatClampNeg = 6 from rfl, u2_uR, show (upd (sO (sO Q k 4 4) k 5 (-1)) 4 (Q 4 - 2)) 6 = Q 6 by simp (disch := omega) only [sO, up_n]] at e22
    refine hL _ ?_
    rw [e22, if_pos ⟨c2, c1⟩]
    first | done | rfl
/-- the minute itself -/
theorem u0 (h : i ≠ 0) : upd R 0 v i = R i := up_n h
theorem wf_min (w : WF T R) (hm : m + 1 ≤ 10000) (h0 : R 0 = nI m) : WF T (upd R 0 (R 0 + 1)) := by
  have n5 := w.nb5
  have so : SOr R (upd R 0 (R 0 + 1)) := ⟨u0 (by decide), fun o ho f hf => u0 (by omega)⟩
  have sb : SBa R (upd R 0 (R 0 + 1)) := ⟨u0 (by decide), fun o ho f hf => u0 (by omega)⟩
  have np' : np (upd R 0 (R 0 + 1)) = np R := by unfold np; rw [u0 (by decide)]
  obtain ⟨⟨⟨⟨a1, a2⟩, ⟨a3, a4⟩, a5, a6⟩, a7, a8, a9, a10, a11, a12, a13⟩, b1, b2, b3, b4, b5⟩ := id w
  refine ⟨⟨⟨⟨by rw [u0 (by decide), np']; exact a1, by rw [np']; exact a2⟩, ⟨by rw [u0 (by decide), sb.eN]; exact a3, by rw [sb.eN]; exact a4⟩, by rw [u0 (by decide), so.eN]; exact a5, by rw [so.eN]; exact a6⟩, by rw [np']; exact a7, trivial, ⟨m + 1, hm, by rw [up_s, h0, nI_1]⟩, by rw [u0 (by decide)]; exact a10, by rw [u0 (by decide), so.eCIn]; exact a11, fun j hj => by rw [u0 (by omega)]; exact a12 j hj, fun j h1 h2 => by rw [np'] at h1; rw [u0 (by omega), u0 (by omega)]; exact a13 j h1 h2⟩, fun d hd => ?_, fun x hx => ?_, sb.wl b3, fun d hd => ?_, so.wt b5⟩
  · rw [sb.eN] at hd
    exact (b1 d hd).congr (u0 (by decide)) (sb.2 d hd)
  · rw [so.eN] at hx
    exact (b2 x hx).congr (u0 (by decide)) (u0 (by decide)) (by rw [u0 (by decide)]; exact Nat.le_refl _) (so.2 x hx)
  · rw [sb.eN] at hd
    rw [so.eHeld]
    exact b4 d hd
theorem rel_min (w : WF T R) (h : RelC c M R) : RelC c (u2 M c 8 (M c 8 + 1)) (upd R 0 (R 0 + 1)) := by
  have n5 := w.nb5
  have so : SOr R (upd R 0 (R 0 + 1)) := ⟨u0 (by decide), fun o ho f hf => u0 (by omega)⟩
  have sb : SBa R (upd R 0 (R 0 + 1)) := ⟨u0 (by decide), fun o ho f hf => u0 (by omega)⟩
  refine ⟨?_, fun j hj => (h.2.1 j hj).congr (u2_n (by omega)) (u0 (by omega)) (u0 (by omega)) (sb.eWho _), fun j hj => ?_, fun d hd => ?_, fun d hd => ?_, fun x hx => ?_⟩
  · have hs := h.1
    unfold Sc at hs ⊢
    rw [so.eCIn]
    simp (disch := omega) only [uR_s, up_s, up_n]
    exact ⟨hs.1, hs.2.1, hs.2.2.1, by rw [hs.2.2.2.1], hs.2.2.2.2⟩
  · rw [u2_n (by omega), u2_n (by omega), u0 (by omega), u0 (by omega)]
    exact h.2.2.1 j hj
  · rw [sb.eN] at hd
    exact (h.2.2.2.1 d hd).congr (u2_n (by omega)) (sb.2 d hd)
  · rw [sb.eN] at hd
    exact (h.2.2.2.2.1 d hd).congr (by rw [u2_n (by omega)]) (u2_n (by omega)) (fun l hl => so.isQ hl)
  · rw [so.eN] at hx
    exact (h.2.2.2.2.2 x hx).congr (u2_n (by omega)) (so.2 x hx)
end PASS
