/-! the model's row R, held in cell r (700 now, 701 draft): what its reading methods answer -/
def bg (R : Nat → Int32) (b f : Nat) : Int32 := R (72 + 7 * b + f)
def og (R : Nat → Int32) (o f : Nat) : Int32 := R (107 + 9 * o + f)
def sB (R : Nat → Int32) (b f : Nat) (v : Int32) : Nat → Int32 := upd R (72 + 7 * b + f) v
def sO (R : Nat → Int32) (o f : Nat) (v : Int32) : Nat → Int32 := upd R (107 + 9 * o + f) v
def np (R : Nat → Int32) : Nat := (R 1).toNatClampNeg
def nb (R : Nat → Int32) : Nat := (R 2).toNatClampNeg
def no (R : Nat → Int32) : Nat := (R 3).toNatClampNeg
/-- the numbers of places, barges, orders are in bounds -/
def Ix (R : Nat → Int32) : Prop := (R 1 = nI (np R) ∧ np R ≤ 16) ∧ (R 2 = nI (nb R) ∧ nb R ≤ 5) ∧ R 3 = nI (no R) ∧ no R ≤ 30
def Rw (M : TM) (r : Nat) : Prop := (M 699 6 = 0 ∧ r = 700) ∨ (M 699 6 = 1 ∧ r = 701)
theorem K_of {α : Type} {K : Int32 → α → Prop} {x y : Int32} {M : α} (h : K x M) (e : x = y) : K y M := e ▸ h
theorem li0 : (0 : Int32).toNatClampNeg = 0 := rfl
theorem li1 : (1 : Int32).toNatClampNeg = 1 := rfl
theorem li2 : (2 : Int32).toNatClampNeg = 2 := rfl
theorem li3 : (3 : Int32).toNatClampNeg = 3 := rfl
theorem vlt {n N : Nat} {x : Int32} (e : x = nI n) (h : n < N) (hN : N < 2 ^ 31) : vp_in x N := by rw [e]; exact vp_in_nI h hN
theorem Rw.lt {M : TM} {r : Nat} (hr : Rw M r) : r ≠ 699 := by rcases hr with ⟨_, rfl⟩ | ⟨_, rfl⟩ <;> decide
theorem Rw.g {M : TM} {r : Nat} (hr : Rw M r) (R : Nat → Int32) : (uR M r R) 699 = M 699 := uR_n (fun e => hr.lt e.symm)
theorem Rw.v {M : TM} {r : Nat} (hr : Rw M r) (R : Nat → Int32) : vp_in ((uR M r R) 699 6) 2 := by
  rw [hr.g]
  rcases hr with ⟨h, _⟩ | ⟨h, _⟩ <;> rw [h]
  · exact vlt (n := 0) rfl (by decide) (by decide)
  · exact vlt (n := 1) rfl (by decide) (by decide)
theorem Rw.c {M : TM} {r : Nat} (hr : Rw M r) (R : Nat → Int32) : 700 + ((uR M r R) 699 6).toNatClampNeg = r := by
  rw [hr.g]
  rcases hr with ⟨h, rfl⟩ | ⟨h, rfl⟩ <;> rw [h] <;> rfl
theorem Rw.to {M : TM} {r : Nat} (hr : Rw M r) (R : Nat → Int32) : Rw (uR M r R) r := by
  unfold Rw
  rw [hr.g]
  exact hr
theorem Rw.np {M : TM} {r : Nat} {R : Nat → Int32} (hr : Rw M r) (ix : Ix R) : (uR M r R) (700 + ((uR M r R) 699 6).toNatClampNeg) (1 : Int32).toNatClampNeg = nI (np R) := by rw [hr.c, uR_s]; exact ix.1.1
theorem Rw.nb {M : TM} {r : Nat} {R : Nat → Int32} (hr : Rw M r) (ix : Ix R) : (uR M r R) (700 + ((uR M r R) 699 6).toNatClampNeg) (2 : Int32).toNatClampNeg = nI (nb R) := by rw [hr.c, uR_s]; exact ix.2.1.1
theorem Rw.no {M : TM} {r : Nat} {R : Nat → Int32} (hr : Rw M r) (ix : Ix R) : (uR M r R) (700 + ((uR M r R) 699 6).toNatClampNeg) (3 : Int32).toNatClampNeg = nI (no R) := by rw [hr.c, uR_s]; exact ix.2.2.1
theorem vv0 : vp_in (0 : Int32) 377 := vlt (n := 0) rfl (by decide) (by decide)
theorem vv1 : vp_in (1 : Int32) 377 := vlt (n := 1) rfl (by decide) (by decide)
theorem vv2 : vp_in (2 : Int32) 377 := vlt (n := 2) rfl (by decide) (by decide)
theorem vv3 : vp_in (3 : Int32) 377 := vlt (n := 3) rfl (by decide) (by decide)
theorem vv4 : vp_in (4 : Int32) 377 := vlt (n := 4) rfl (by decide) (by decide)
theorem vv5 : vp_in (5 : Int32) 377 := vlt (n := 5) rfl (by decide) (by decide)
theorem vv6 : vp_in (6 : Int32) 377 := vlt (n := 6) rfl (by decide) (by decide)
theorem vv7 : vp_in (7 : Int32) 377 := vlt (n := 7) rfl (by decide) (by decide)
theorem vv8 : vp_in (8 : Int32) 377 := vlt (n := 8) rfl (by decide) (by decide)
def inL (R : Nat → Int32) (b : Nat) : Bool := decide (¬ bg R b 6 ≤ 0)
def free (R : Nat → Int32) (b : Nat) (p : Int32) : Bool := !inL R b && decide (bg R b 0 = p)
def sails (R : Nat → Int32) (b : Nat) : Bool := decide (¬ bg R b 1 = bg R b 0)
def ahead (R : Nat → Int32) (b : Nat) : Int32 := if bg R b 1 ≤ bg R b 0 then bg R b 0 - 1 else bg R b 0
def who (R : Nat → Int32) (s : Int32) : Int32 := ff (fun b => inL R b && decide (ahead R b = s)) (nb R)
def cAt (R : Nat → Int32) (p : Int32) : Nat := cn (fun b => free R b p) (nb R)
def bel (R : Nat → Int32) (o : Nat) (b s : Int32) : Bool := decide (og R o 4 = s) && decide (og R o 5 = b)
def cOf (R : Nat → Int32) (b s : Int32) : Nat := cn (fun o => bel R o b s) (no R)
def idx (R : Nat → Int32) (o : Nat) (b : Int32) : Nat := cn (fun q => bel R q b 1 && decide (og R q 8 < og R o 8)) (no R)
def qd (R : Nat → Int32) (b i : Int32) : Int32 := ff (fun o => bel R o b 1 && decide (nI (idx R o b) = i)) (no R)
def prc (R : Nat → Int32) (o : Nat) : Int32 := og R o 1 * (3 + og R o 2)
def alive (R : Nat → Int32) (o : Nat) : Bool := decide (¬ 2 < og R o 4)
def cIn (R : Nat → Int32) (s : Int32) : Nat := cn (fun o => decide (og R o 4 = s)) (no R)
section MREAD
variable {M : TM} {r : Nat} {R : Nat → Int32} {K : Int32 → TM → Prop} {KV : TM → Prop} {p q s : Int32} {b o f : Nat}
theorem ix_b (b f : Nat) : ((72 : Int32) + (7 : Int32) * nI b) + nI f = nI (72 + 7 * b + f) := by
  rw [show (72 : Int32) = nI 72 from rfl, show (7 : Int32) = nI 7 from rfl, nI_mul, nI_add, nI_add]
theorem ix_o (o f : Nat) : ((107 : Int32) + (9 : Int32) * nI o) + nI f = nI (107 + 9 * o + f) := by
  rw [show (107 : Int32) = nI 107 from rfl, show (9 : Int32) = nI 9 from rfl, nI_mul, nI_add, nI_add]
theorem m_of (hr : Rw M r) (e1 : p = nI b) (e2 : q = nI f) (hb : b < 5) (hf : f < 7) (h : K (bg R b f) (uR M r R)) : f_X13_of p q (uR M r R) K := by
  subst e1 e2
  unfold f_X13_of
  rw [ix_b, hr.c, uR_s, nI_clamp (by omega)]
  exact ⟨hr.v R, vp_in_nI (by omega) (by decide), h⟩
theorem m_ofO (hr : Rw M r) (e1 : p = nI o) (e2 : q = nI f) (hb : o < 30) (hf : f < 9) (h : K (og R o f) (uR M r R)) : f_X13_ofOrder p q (uR M r R) K := by
  subst e1 e2
  unfold f_X13_ofOrder
  rw [ix_o, hr.c, uR_s, nI_clamp (by omega)]
  exact ⟨hr.v R, vp_in_nI (by omega) (by decide), h⟩
theorem m_lay {v : Int32} (hr : Rw M r) (e1 : p = nI b) (e2 : q = nI f) (hb : b < 5) (hf : f < 7) (h : KV (uR M r (sB R b f v))) : f_X13_lay p q v (uR M r R) KV := by
  subst e1 e2
  unfold f_X13_lay
  rw [ix_b, hr.c, nI_clamp (by omega)]
  refine ⟨hr.v R, vp_in_nI (by omega) (by decide), fun M3 e3 => ?_⟩
  rw [e3, u2_uR]
  exact h
theorem m_layO {v : Int32} (hr : Rw M r) (e1 : p = nI o) (e2 : q = nI f) (hb : o < 30) (hf : f < 9) (h : KV (uR M r (sO R o f v))) : f_X13_layOrder p q v (uR M r R) KV := by
  subst e1 e2
  unfold f_X13_layOrder
  rw [ix_o, hr.c, nI_clamp (by omega)]
  refine ⟨hr.v R, vp_in_nI (by omega) (by decide), fun M3 e3 => ?_⟩
  rw [e3, u2_uR]
  exact h
theorem m_add {v : Int32} (hr : Rw M r) (e1 : p = nI b) (e2 : q = nI f) (hb : b < 5) (hf : f < 7) (h : KV (uR M r (sB R b f (bg R b f + v)))) : f_X13_add p q v (uR M r R) KV := by
  unfold f_X13_add
  refine m_of hr e1 e2 hb hf ?_
  exact m_lay hr e1 e2 hb hf h
theorem m_isPlace (hr : Rw M r) (ix : Ix R) (h : K (bi (inR p (np R))) (uR M r R)) : f_X13_isPlace p (uR M r R) K := by
  unfold f_X13_isPlace
  rw [hr.np ix]
  refine ⟨hr.v R, vv1, m_inRange ?_⟩
  rw [m_inR (by have := ix.1.2; omega)]
  exact h
theorem m_isBarge (hr : Rw M r) (ix : Ix R) (h : K (bi (inR p (nb R))) (uR M r R)) : f_X13_isBarge p (uR M r R) K := by
  unfold f_X13_isBarge
  rw [hr.nb ix]
  refine ⟨hr.v R, vv2, m_inRange ?_⟩
  rw [m_inR (by have := ix.2.1.2; omega)]
  exact h
theorem m_isOrder (hr : Rw M r) (ix : Ix R) (h : K (bi (inR p (no R))) (uR M r R)) : f_X13_isOrder p (uR M r R) K := by
  unfold f_X13_isOrder
  rw [hr.no ix]
  refine ⟨hr.v R, vv3, m_inRange ?_⟩
  rw [m_inR (by have := ix.2.2.2; omega)]
  exact h
theorem m_isSection (hr : Rw M r) (ix : Ix R) (hn : 1 ≤ np R) (h : K (bi (inR p (np R - 1))) (uR M r R)) : f_X13_isSection p (uR M r R) K := by
  unfold f_X13_isSection
  rw [hr.np ix]
  refine ⟨hr.v R, vv1, m_inRange ?_⟩
  have e : nI (np R) - 2 = nI (np R - 1) - 1 := by
    rw [show (1 : Int32) = nI 1 from rfl, show (2 : Int32) = nI 2 from rfl, ← nI_sub hn, show nI 2 = nI 1 + nI 1 from (nI_add 1 1).symm, Int32.sub_eq_add_neg, Int32.sub_eq_add_neg, Int32.sub_eq_add_neg, Int32.neg_add, Int32.add_assoc, Int32.sub_eq_add_neg]
  rw [e, m_inR (by have := ix.1.2; omega)]
  exact h
theorem m_isIn (hr : Rw M r) (e1 : p = nI o) (ho : o < 30) (h : K (bi (decide (og R o 4 = s))) (uR M r R)) : f_X13_isIn p s (uR M r R) K := by
  unfold f_X13_isIn
  refine m_ofO hr e1 (f := 4) rfl ho (by decide) ?_
  exact rt1 h
theorem m_isInLock (hr : Rw M r) (e1 : p = nI b) (hb : b < 5) (h : K (bi (inL R b)) (uR M r R)) : f_X13_isInLock p (uR M r R) K := by
  unfold f_X13_isInLock
  refine m_of hr e1 (f := 6) rfl hb (by decide) ?_
  exact rt0 h
theorem m_isFree (hr : Rw M r) (e1 : p = nI b) (hb : b < 5) (h : K (bi (free R b s)) (uR M r R)) : f_X13_isFree p s (uR M r R) K := by
  unfold f_X13_isFree
  refine m_isInLock hr e1 hb ?_
  refine bT (fun h1 => ?_) (fun h0 => ?_)
  · exact K_of h (by simp [free, h1, bi])
  · refine m_of hr e1 (f := 0) rfl hb (by decide) ?_
    exact rt1 (K_of h (by simp [free, h0]))
theorem m_sails (hr : Rw M r) (e1 : p = nI b) (hb : b < 5) (h : K (bi (sails R b)) (uR M r R)) : f_X13_sails p (uR M r R) K := by
  unfold f_X13_sails
  refine m_of hr e1 (f := 1) rfl hb (by decide) ?_
  refine m_of hr e1 (f := 0) rfl hb (by decide) ?_
  exact rt0 h
theorem m_ahead (hr : Rw M r) (e1 : p = nI b) (hb : b < 5) (h : K (ahead R b) (uR M r R)) : f_X13_sectionAhead p (uR M r R) K := by
  unfold f_X13_sectionAhead
  refine m_of hr e1 (f := 0) rfl hb (by decide) ?_
  refine m_of hr e1 (f := 1) rfl hb (by decide) ?_
  exact ⟨fun c => K_of h (by simp [ahead, c]), fun c => K_of h (by simp [ahead, c])⟩
theorem m_who (hr : Rw M r) (ix : Ix R) (h : K (who R s) (uR M r R)) : f_X13_whoIsIn s (uR M r R) K := by
  unfold f_X13_whoIsIn
  have hb5 := ix.2.1.2
  refine ⟨nb R + 1, inv_loop (fun n (_ : Unit) k => f_X13_whoIsIn_L2 s K n s (nI k) (uR M r R)) (fun k _ => ∀ j, j < k → (inL R j && decide (ahead R j = s)) = false) (nb R) ?_ ?_ (nb R) 0 () (Nat.zero_add _) (fun j hj => absurd hj (Nat.not_lt_zero _))⟩
  · intro n _ hI
    rw [f_X13_whoIsIn_L2, hr.nb ix]
    exact ⟨hr.v R, vv2, cT' (nI_le (Nat.le_refl _) (by omega)) (K_of h (ff_none hI))⟩
  · intro n _ k hk hI hL
    rw [f_X13_whoIsIn_L2, hr.nb ix]
    refine ⟨hr.v R, vv2, cN' (nI_ge hk (by omega)) ?_⟩
    refine m_isInLock hr rfl (by omega) ?_
    have go : (inL R k && decide (ahead R k = s)) = false → f_X13_whoIsIn_L2 s K n s (nI k + 1) (uR M r R) := fun e => by
      rw [nI_1]
      exact hL () (fun j hj => by
        by_cases e' : j = k
        · rw [e']; exact e
        · exact hI j (by omega))
    refine bF (fun h1 => ?_) (fun h0 => go (by simp [h0]))
    refine m_ahead hr rfl (by omega) ?_
    exact ⟨fun c => go (by simp [c]), fun c => K_of h (ff_some hk (by simp [h1, c]) hI)⟩
theorem m_cAt (hr : Rw M r) (ix : Ix R) (h : K (nI (cAt R s)) (uR M r R)) : f_X13_countAt s (uR M r R) K := by
  unfold f_X13_countAt
  have hb5 := ix.2.1.2
  refine fo_loop (fun n a k => f_X13_countAt_L4 s K n s a (nI k) (uR M r R)) (fun k x => x + bi (free R k s)) 0 (nb R) (fun n => ?_) (fun n a k hk hL => ?_)
  · rw [f_X13_countAt_L4, hr.nb ix]
    exact ⟨hr.v R, vv2, cT' (nI_le (Nat.le_refl _) (by omega)) (K_of h (by rw [show (0 : Int32) = nI 0 from rfl, fo_cn, Nat.zero_add]; rfl))⟩
  · rw [f_X13_countAt_L4, hr.nb ix]
    refine ⟨hr.v R, vv2, cN' (nI_ge hk (by omega)) ?_⟩
    refine m_isFree hr rfl (by omega) ?_
    rw [nI_1]
    exact bF (fun h1 => by rw [h1] at hL; exact hL) (fun h0 => by rw [h0] at hL; exact hL)
theorem m_bel {u : Int32} (hr : Rw M r) (e1 : p = nI o) (ho : o < 30) (h : K (bi (bel R o u s)) (uR M r R)) : f_X13_belongs p u s (uR M r R) K := by
  unfold f_X13_belongs
  refine m_isIn hr e1 ho ?_
  refine pF (fun h1 => ?_) (fun h0 => K_of h (by simp [bel, h0, bi]))
  refine m_ofO hr e1 (f := 5) rfl ho (by decide) ?_
  exact rt1 (K_of h (by simp [bel, h1]))
theorem m_cOf {u : Int32} (hr : Rw M r) (ix : Ix R) (h : K (nI (cOf R u s)) (uR M r R)) : f_X13_countOf u s (uR M r R) K := by
  unfold f_X13_countOf
  have hb5 := ix.2.2.2
  refine fo_loop (fun n a k => f_X13_countOf_L5 u s K n u s a (nI k) (uR M r R)) (fun k x => x + bi (bel R k u s)) 0 (no R) (fun n => ?_) (fun n a k hk hL => ?_)
  · rw [f_X13_countOf_L5, hr.no ix]
    exact ⟨hr.v R, vv3, cT' (nI_le (Nat.le_refl _) (by omega)) (K_of h (by rw [show (0 : Int32) = nI 0 from rfl, fo_cn, Nat.zero_add]; rfl))⟩
  · rw [f_X13_countOf_L5, hr.no ix]
    refine ⟨hr.v R, vv3, cN' (nI_ge hk (by omega)) ?_⟩
    refine m_bel hr rfl (by omega) ?_
    rw [nI_1]
    exact bF (fun h1 => by rw [h1] at hL; exact hL) (fun h0 => by rw [h0] at hL; exact hL)
theorem m_idx (hr : Rw M r) (ix : Ix R) (e1 : p = nI o) (ho : o < 30) (h : K (nI (idx R o s)) (uR M r R)) : f_X13_indexOf p s (uR M r R) K := by
  unfold f_X13_indexOf
  have hb5 := ix.2.2.2
  refine fo_loop (fun n a k => f_X13_indexOf_L5 p s K n p s a (nI k) (uR M r R)) (fun k x => x + bi (bel R k s 1 && decide (og R k 8 < og R o 8))) 0 (no R) (fun n => ?_) (fun n a k hk hL => ?_)
  · rw [f_X13_indexOf_L5, hr.no ix]
    exact ⟨hr.v R, vv3, cT' (nI_le (Nat.le_refl _) (by omega)) (K_of h (by rw [show (0 : Int32) = nI 0 from rfl, fo_cn, Nat.zero_add]; rfl))⟩
  · rw [f_X13_indexOf_L5, hr.no ix]
    refine ⟨hr.v R, vv3, cN' (nI_ge hk (by omega)) ?_⟩
    refine m_bel hr rfl (by omega) ?_
    rw [nI_1]
    refine bF (fun h1 => ?_) (fun h0 => by rw [h0] at hL; exact hL)
    refine m_ofO hr (o := k) (f := 8) rfl rfl (by omega) (by decide) ?_
    refine m_ofO hr (f := 8) e1 rfl ho (by decide) ?_
    refine ⟨fun c => ?_, fun c => ?_⟩
    · rw [h1, show decide (og R k 8 < og R o 8) = false from decide_eq_false (Int32.not_lt.2 c)] at hL; exact hL
    · rw [h1, show decide (og R k 8 < og R o 8) = true from decide_eq_true (Int32.not_le.1 c)] at hL; exact hL
theorem m_qd {u : Int32} (hr : Rw M r) (ix : Ix R) (h : K (qd R u s) (uR M r R)) : f_X13_queued u s (uR M r R) K := by
  unfold f_X13_queued
  have hb5 := ix.2.2.2
  refine ⟨no R + 1, inv_loop (fun n (_ : Unit) k => f_X13_queued_L2 u s K n u s (nI k) (uR M r R)) (fun k _ => ∀ j, j < k → (bel R j u 1 && decide (nI (idx R j u) = s)) = false) (no R) ?_ ?_ (no R) 0 () (Nat.zero_add _) (fun j hj => absurd hj (Nat.not_lt_zero _))⟩
  · intro n _ hI
    rw [f_X13_queued_L2, hr.no ix]
    exact ⟨hr.v R, vv3, cT' (nI_le (Nat.le_refl _) (by omega)) (K_of h (ff_none hI))⟩
  · intro n _ k hk hI hL
    rw [f_X13_queued_L2, hr.no ix]
    refine ⟨hr.v R, vv3, cN' (nI_ge hk (by omega)) ?_⟩
    refine m_bel hr rfl (by omega) ?_
    have go : (bel R k u 1 && decide (nI (idx R k u) = s)) = false → f_X13_queued_L2 u s K n u s (nI k + 1) (uR M r R) := fun e => by
      rw [nI_1]
      exact hL () (fun j hj => by
        by_cases e' : j = k
        · rw [e']; exact e
        · exact hI j (by omega))
    refine bF (fun h1 => ?_) (fun h0 => go (by simp [h0]))
    refine m_idx hr ix rfl (by omega) ?_
    exact ⟨fun c => go (by simp [c]), fun c => K_of h (ff_some hk (by simp [h1, c]) hI)⟩
theorem m_prc (hr : Rw M r) (e1 : p = nI o) (ho : o < 30) (h : K (prc R o) (uR M r R)) : f_X13_priceOf p (uR M r R) K := by
  unfold f_X13_priceOf
  refine m_ofO hr e1 (f := 1) rfl ho (by decide) ?_
  refine m_ofO hr e1 (f := 2) rfl ho (by decide) ?_
  exact h
theorem m_alive (hr : Rw M r) (e1 : p = nI o) (ho : o < 30) (h : K (bi (alive R o)) (uR M r R)) : f_X13_isAlive p (uR M r R) K := by
  unfold f_X13_isAlive
  refine m_ofO hr e1 (f := 4) rfl ho (by decide) ?_
  exact rt0 h
theorem m_cIn (hr : Rw M r) (ix : Ix R) (h : K (nI (cIn R s)) (uR M r R)) : f_X13_countIn s (uR M r R) K := by
  unfold f_X13_countIn
  have hb5 := ix.2.2.2
  refine fo_loop (fun n a k => f_X13_countIn_L4 s K n s a (nI k) (uR M r R)) (fun k x => x + bi (decide (og R k 4 = s))) 0 (no R) (fun n => ?_) (fun n a k hk hL => ?_)
  · rw [f_X13_countIn_L4, hr.no ix]
    exact ⟨hr.v R, vv3, cT' (nI_le (Nat.le_refl _) (by omega)) (K_of h (by rw [show (0 : Int32) = nI 0 from rfl, fo_cn, Nat.zero_add]; rfl))⟩
  · rw [f_X13_countIn_L4, hr.no ix]
    refine ⟨hr.v R, vv3, cN' (nI_ge hk (by omega)) ?_⟩
    refine m_isIn hr rfl (by omega) ?_
    rw [nI_1]
    exact bF (fun h1 => by rw [h1] at hL; exact hL) (fun h0 => by rw [h0] at hL; exact hL)
end MREAD
