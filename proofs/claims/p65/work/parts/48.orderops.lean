/-! the changes of one order: a new one, take, drop -/
def okO (R : Nat → Int32) (p : Int32) : Bool := inR p (np R) && decide (no R < 30)
def okT (R : Nat → Int32) (p q : Int32) : Bool := (inR p (nb R) && inR q (no R)) && (decide (og R q.toNatClampNeg 4 = 0) && decide (held R p.toNatClampNeg < 4))
def okD (R : Nat → Int32) (p : Int32) : Bool := inR p (no R) && isHeld R p.toNatClampNeg
def aOrder (R : Nat → Int32) (p bo pu mi : Int32) : Nat → Int32 := sO (sO (sO (sO (sO (sO (sO (sO (upd R 3 (R 3 + 1)) (no R) 0 p) (no R) 1 bo) (no R) 2 pu) (no R) 3 (R 0 + mi - 1)) (no R) 4 0) (no R) 5 (-1)) (no R) 6 0) (no R) 7 pu
def aTake (R : Nat → Int32) (b o : Nat) : Nat → Int32 := upd (sO (sO (sO R o 4 1) o 5 (nI b)) o 8 (R 8)) 8 (R 8 + 1)
def aDrop (R : Nat → Int32) (o : Nat) : Nat → Int32 := sO (sO (sO (sO R o 4 0) o 5 (-1)) o 6 0) o 7 (og R o 2)
section ORDEROPS
variable {M M' : TM} {r c T k : Nat} {R R' : Nat → Int32} {K : Int32 → TM → Prop} {KV : TM → Prop} {p q u s bo pu mi : Int32} {b d o f j a t : Nat} {l : List Nat}
theorem m_addOrder (hr : Rw M r) (ix : Ix R) (hn : no R < 30) (h : KV (uR M r (aOrder R p bo pu mi))) : f_X13_addOrder p bo pu mi (uR M r R) KV := by
  unfold f_X13_addOrder
  rw [hr.no ix]
  refine ⟨hr.v _, vv3, hr.v _, vv3, vv3, ?_⟩
  intro M6 e6
  rw [hr.c, li3, u2_uR, ← ix.2.2.1] at e6
  rw [e6]
  refine m_layO hr rfl (f := 0) rfl hn (by decide) ?_
  refine m_layO hr rfl (f := 1) rfl hn (by decide) ?_
  refine m_layO hr rfl (f := 2) rfl hn (by decide) ?_
  refine ⟨hr.v _, vv0, ?_⟩
  rw [hr.rd (x := 0) (i := 0) rfl (by decide)]
  refine m_layO hr rfl (f := 3) rfl hn (by decide) ?_
  refine m_layO hr rfl (f := 4) rfl hn (by decide) ?_
  refine m_layO hr rfl (f := 5) rfl hn (by decide) ?_
  refine m_layO hr rfl (f := 6) rfl hn (by decide) ?_
  refine m_layO hr rfl (f := 7) rfl hn (by decide) ?_
  have e0 : (sO (sO (sO (upd R 3 (R 3 + 1)) (no R) 0 p) (no R) 1 bo) (no R) 2 pu) 0 = R 0 := by simp (disch := omega) only [sO, up_n]
  rw [e0]
  exact h
/-- what a new order leaves -/
theorem aO_x (hx : o ≠ no R) (hf : f < 9) : og (aOrder R p bo pu mi) o f = og R o f := by
  have : 107 + 9 * o + f ≠ 3 := by omega
  simp (disch := omega) only [aOrder, og, sO, up_n]
theorem aO_b (hb : b < 5) (hf : f < 7) : bg (aOrder R p bo pu mi) b f = bg R b f := by simp (disch := omega) only [aOrder, bg, sO, up_n]
theorem aO_s (h : j < 72) (h3 : j ≠ 3) : aOrder R p bo pu mi j = R j := by simp (disch := omega) only [aOrder, sO, up_n]
theorem aO_3 (w : WF T R) : aOrder R p bo pu mi 3 = nI (no R + 1) := by
  have e : aOrder R p bo pu mi 3 = R 3 + 1 := by simp (disch := omega) only [aOrder, sO, up_n, up_s]
  rw [e, w.1.1.2.2.1, nI_1]
theorem aO_no (w : WF T R) : no (aOrder R p bo pu mi) = no R + 1 := by
  have := w.no30
  unfold no
  rw [aO_3 w, nI_clamp (by omega)]
  rfl
theorem aO_f (R : Nat → Int32) (p bo pu mi : Int32) : og (aOrder R p bo pu mi) (no R) 0 = p ∧ og (aOrder R p bo pu mi) (no R) 1 = bo ∧ og (aOrder R p bo pu mi) (no R) 2 = pu ∧ og (aOrder R p bo pu mi) (no R) 3 = R 0 + mi - 1 ∧ og (aOrder R p bo pu mi) (no R) 4 = 0 ∧ og (aOrder R p bo pu mi) (no R) 5 = -1 ∧ og (aOrder R p bo pu mi) (no R) 6 = 0 ∧ og (aOrder R p bo pu mi) (no R) 7 = pu := by
  refine ⟨?_, ?_, ?_, ?_, ?_, ?_, ?_, ?_⟩ <;> simp (disch := omega) only [aOrder, og, sO, up_n, up_s]
theorem aO_cn (w : WF T R) (P : Int32 → Int32 → Bool) (h0 : P 0 (-1) = false) : cn (fun o => P (og (aOrder R p bo pu mi) o 4) (og (aOrder R p bo pu mi) o 5)) (no (aOrder R p bo pu mi)) = cn (fun o => P (og R o 4) (og R o 5)) (no R) := by
  rw [aO_no w]
  show cn _ (no R) + (if P (og (aOrder R p bo pu mi) (no R) 4) (og (aOrder R p bo pu mi) (no R) 5) then 1 else 0) = _
  have f := aO_f R p bo pu mi
  rw [f.2.2.2.2.1, f.2.2.2.2.2.1, h0]
  exact cn_congr _ (fun k hk => by rw [aO_x (by omega) (by decide), aO_x (by omega) (by decide)])
theorem aO_cIn (w : WF T R) (hs : s ≠ 0) : cIn (aOrder R p bo pu mi) s = cIn R s := aO_cn w (fun x _ => decide (x = s)) (decide_eq_false (fun e => hs e.symm))
theorem aO_held (w : WF T R) : held (aOrder R p bo pu mi) d = held R d := aO_cn w (fun x y => decide (x = 1) && decide (y = nI d) || decide (x = 2) && decide (y = nI d)) (by simp only [show decide ((0 : Int32) = 1) = false from by decide, show decide ((0 : Int32) = 2) = false from by decide, Bool.false_and, Bool.or_false])
theorem aO_sb (w : WF T R) : SBa R (aOrder R p bo pu mi) := ⟨aO_s (by decide) (by decide), fun d hd f hf => aO_b (by have := w.nb5; omega) hf⟩
theorem aO_bel (h : o ≠ no R) : bel (aOrder R p bo pu mi) o q s = bel R o q s := by unfold bel; rw [aO_x h (by decide), aO_x h (by decide)]
theorem aO_isQ (w : WF T R) (h : IsQ R d l) : IsQ (aOrder R p bo pu mi) d l := by
  refine ⟨h.1.imp_of_mem (fun {x y} hx hy hxy => ?_), fun x => ?_⟩
  · have a1 := ((h.2 x).1 hx).1
    have a2 := ((h.2 y).1 hy).1
    rw [aO_x (by omega) (by decide), aO_x (by omega) (by decide)]; exact hxy
  · rw [h.2 x, aO_no w]
    constructor
    · rintro ⟨h1, h2⟩
      exact ⟨by omega, by rw [aO_bel (by omega)]; exact h2⟩
    · rintro ⟨h1, h2⟩
      by_cases e : x = no R
      · subst e
        unfold bel at h2
        rw [(aO_f R p bo pu mi).2.2.2.2.1] at h2
        simp at h2
      · exact ⟨by omega, by rw [aO_bel e] at h2; exact h2⟩
theorem wf_order (w : WF T R) (ok : okO R p = true) : WF T (aOrder R p bo pu mi) := by
  have n5 := w.nb5
  have n16 := w.np16
  unfold okO at ok
  rw [Bool.and_eq_true, decide_eq_true_eq] at ok
  obtain ⟨t, ht, rfl⟩ := inR_of (by omega) ok.1
  have hn := ok.2
  have sb : SBa R (aOrder R (nI t) bo pu mi) := aO_sb w
  have np' : np (aOrder R (nI t) bo pu mi) = np R := by unfold np; rw [aO_s (by decide) (by decide)]
  obtain ⟨⟨⟨⟨a1, a2⟩, ⟨a3, a4⟩, a5, a6⟩, a7, a8, a9, a10, a11, a12, a13⟩, b1, b2, b3, b4, b5⟩ := id w
  refine ⟨⟨⟨⟨by rw [aO_s (by decide) (by decide), np']; exact a1, by rw [np']; exact a2⟩, ⟨by rw [sb.1, sb.eN]; exact a3, by rw [sb.eN]; exact a4⟩, by rw [aO_3 w, aO_no w], by rw [aO_no w]; omega⟩, by rw [np']; exact a7, trivial, by rw [aO_s (by decide) (by decide)]; exact a9, by rw [aO_s (by decide) (by decide)]; exact a10, by rw [aO_s (by decide) (by decide), aO_cIn w (by decide)]; exact a11, fun j hj => by rw [aO_s (by omega) (by omega)]; exact a12 j hj, fun j hj1 hj2 => by rw [np'] at hj1; rw [aO_s (by omega) (by omega), aO_s (by omega) (by omega)]; exact a13 j hj1 hj2⟩, fun d hd => ?_, fun x hx => ?_, sb.wl b3, fun d hd => ?_, fun x y hx hy => ?_⟩
  · rw [sb.eN] at hd
    exact (b1 d hd).congr (aO_s (by decide) (by decide)) (sb.2 d hd)
  · rw [aO_no w] at hx
    by_cases e : x = no R
    · subst e
      obtain ⟨f0, f1, f2, f3, f4, f5, f6, f7⟩ := aO_f R (nI t) bo pu mi
      exact ⟨t, 0, by rw [np']; exact ht, by decide, f0, f4, Or.inl f6, fun e => by omega, fun _ => f5, fun e => by omega⟩
    · exact (b2 x (by omega)).congr (aO_s (by decide) (by decide)) (aO_s (by decide) (by decide)) (by rw [aO_s (by decide) (by decide)]; exact Nat.le_refl _) (fun f hf => aO_x e hf)
  · rw [sb.eN] at hd
    rw [aO_held w]
    exact b4 d hd
  · rw [aO_no w] at hx hy
    intro h4 h4'
    have f4 := (aO_f R (nI t) bo pu mi).2.2.2.2.1
    have ex : x ≠ no R := fun e => by subst e; rw [f4] at h4; exact absurd h4 (by decide)
    have ey : y ≠ no R := fun e => by subst e; rw [f4] at h4'; exact absurd h4' (by decide)
    rw [aO_x ex (by decide)] at h4 ⊢
    rw [aO_x ey (by decide)] at h4' ⊢
    exact b5 x y (by omega) (by omega) h4 h4'
theorem c_canAddOrder (w : WF T R) (h : RelC c M R) (hK : K (bi (okO R p)) M) : f_X2_canAddOrder c p M K := by
  unfold f_X2_canAddOrder
  have n30 := w.no30
  refine c_hasPlace w h ?_
  rw [h.1.2.2.1, w.1.1.2.2.1]
  unfold okO at hK
  refine bF (fun hp => ?_) (fun hp => K_of hK (by rw [hp]; rfl))
  refine ⟨fun c1 => K_of hK ?_, fun c1 => K_of hK ?_⟩
  · have c2 := (nI_leI (a := 30) (b := no R) (by decide) (by omega)).1 c1
    rw [hp, decide_eq_false (by omega)]; rfl
  · have c2 : ¬ 30 ≤ no R := fun h => c1 ((nI_leI (a := 30) (b := no R) (by decide) (by omega)).2 h)
    rw [hp, decide_eq_true (by omega)]; rfl
theorem c_addOrder (w : WF T R) (h : RelC c M R) (ok : okO R p = true) (hK : ∀ M', FrC c M M' → RelC c M' (aOrder R p bo pu mi) → KV M') : f_X2_addOrder c p bo pu mi M KV := by
  unfold f_X2_addOrder
  have n5 := w.nb5
  refine c_canAddOrder w h ?_
  rw [ok]
  refine bF (fun _ => ?_) (fun c => by cases c)
  unfold okO at ok
  rw [Bool.and_eq_true, decide_eq_true_eq] at ok
  have hn := ok.2
  rw [h.1.2.2.1, w.1.1.2.2.1, nI_clamp (by omega), h.1.2.2.2.1]
  refine ⟨vp_in_nI hn (by decide), ?_⟩
  unfold f_X6_reset f_X6_open
  intro M1 e1 M2 e2 M3 e3 M4 e4 M5 e5 M6 e6 M7 e7 M8 e8 M9 e9
  subst e1; subst e2; subst e3; subst e4; subst e5; subst e6; subst e7; subst e8; subst e9
  refine hK _ (fun i hi => by simp (disch := omega) only [uR_n]) ?_
  have sb : SBa R (aOrder R p bo pu mi) := aO_sb w
  refine ⟨?_, fun j hj => (h.2.1 j hj).congr (by simp (disch := omega) only [uR_n]) (aO_s (by omega) (by omega)) (aO_s (by omega) (by omega)) (sb.eWho _), fun j hj => ?_, fun d hd => ?_, fun d hd => ?_, fun x hx => ?_⟩
  · unfold Sc
    rw [aO_cIn w (by decide), aO_3 w]
    have hs := h.1
    unfold Sc at hs
    simp (disch := omega) only [aO_s, uR_n, uR_s, up_n, up_s]
    rw [hs.2.2.1, w.1.1.2.2.1, nI_1]
    exact ⟨hs.1, hs.2.1, rfl, hs.2.2.2⟩
  · simp (disch := omega) only [aO_s, uR_n]
    exact h.2.2.1 j hj
  · rw [sb.eN] at hd
    exact (h.2.2.2.1 d hd).congr (by simp (disch := omega) only [uR_n]) (sb.2 d hd)
  · rw [sb.eN] at hd
    exact (h.2.2.2.2.1 d hd).congr (by simp (disch := omega) only [uR_n]) (by simp (disch := omega) only [uR_n]) (fun l hl => aO_isQ w hl)
  · rw [aO_no w] at hx
    by_cases e : x = no R
    · subst e
      obtain ⟨f0, f1, f2, f3, f4, f5, f6, f7⟩ := aO_f R p bo pu mi
      unfold Or
      rw [f0, f1, f2, f3, f4, f5, f6, f7]
      simp (disch := omega) only [uR_n, uR_s, up_n, up_s]
      exact ⟨trivial, trivial, trivial, trivial, trivial, bz_0, trivial, trivial⟩
    · exact (h.2.2.2.2.2 x (by omega)).congr (by simp (disch := omega) only [uR_n]) (fun f hf => aO_x e hf)
theorem m_doOrder (hr : Rw M r) (w : WF T R) (h1 : inR p (np R) = false → K 1 (uR M r R)) (h2 : inR p (np R) = true → okO R p = false → K 3 (uR M r R)) (h0 : okO R p = true → K 0 (uR (u2 M 699 10 (nI (no R))) r (aOrder R p bo pu mi))) : f_X13_doOrder p bo pu mi (uR M r R) K := by
  unfold f_X13_doOrder
  have n30 := w.no30
  refine m_isPlace hr w.ix ?_
  refine bT (fun hp => ?_) (fun hp => h1 hp)
  unfold okO at h0 h2
  rw [hp] at h0 h2
  refine ⟨hr.v _, vv3, ?_⟩
  rw [hr.no w.ix, show (30 : Int32) = nI 30 from rfl, nI_eq (b := 30) (by omega) (by decide)]
  refine ⟨fun c1 => ?_, fun c1 => h2 rfl (by rw [decide_eq_false (by omega)]; rfl)⟩
  replace h0 := h0 (by rw [decide_eq_true (by omega)]; rfl)
  refine m_addOrder hr w.ix (by omega) ?_
  refine ⟨hr.v _, vv3, ?_⟩
  intro M11 e11
  rw [hr.rd (x := 3) (i := 3) rfl (by decide), aO_3 w, nI_pred, u2_sw hr.lt] at e11
  rw [e11]
  exact h0
end ORDEROPS
