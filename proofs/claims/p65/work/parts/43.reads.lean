/-! further reading methods, the class's and the model's -/
def pl (R : Nat → Int32) (b : Nat) : Nat := (bg R b 0).toNatClampNeg
def tg (R : Nat → Int32) (b : Nat) : Nat := (bg R b 1).toNatClampNeg
theorem WB.ePl {R : Nat → Int32} {b : Nat} (h : WB R b) : bg R b 0 = nI (pl R b) ∧ pl R b < np R := by
  obtain ⟨p, t, v, h1, h2, h3, h4, h5, h6, h7⟩ := h
  unfold pl
  have hp : p < 2 ^ 31 := by
    have : np R < 2 ^ 31 := Int32.toNatClampNeg_lt _
    omega
  rw [h4, nI_clamp hp]
  exact ⟨rfl, h1⟩
theorem WB.eTg {R : Nat → Int32} {b : Nat} (h : WB R b) : bg R b 1 = nI (tg R b) ∧ tg R b < np R := by
  obtain ⟨p, t, v, h1, h2, h3, h4, h5, h6, h7⟩ := h
  unfold tg
  have hp : t < 2 ^ 31 := by
    have : np R < 2 ^ 31 := Int32.toNatClampNeg_lt _
    omega
  rw [h5, nI_clamp hp]
  exact ⟨rfl, h2⟩
def fop (R : Nat → Int32) (o : Nat) : Nat := (og R o 0).toNatClampNeg
theorem WO.ePl {R : Nat → Int32} {o : Nat} (h : WO R o) : og R o 0 = nI (fop R o) ∧ fop R o < np R := by
  obtain ⟨p, s, h1, h2, h3, h4⟩ := h
  unfold fop
  have hp : p < 2 ^ 31 := by
    have : np R < 2 ^ 31 := Int32.toNatClampNeg_lt _
    omega
  rw [h3, nI_clamp hp]
  exact ⟨rfl, h1⟩
def sFl (R : Nat → Int32) (b : Int32) : Int32 := fo (fun o x => x + (if bel R o b 1 && decide (og R o 6 = 0) then og R o 1 else 0)) (no R) 0
def urg (R : Nat → Int32) : Int32 := fo (fun o y => if decide (og R o 4 = 0) && (decide (y = -1) || decide (og R o 3 < og R y.toNatClampNeg 3)) then nI o else y) (no R) (-1)
def sOf (R : Nat → Int32) (f : Nat) : Int32 := fo (fun b x => x + bg R b f) (nb R) 0
def sAt (R : Nat → Int32) (w : Nat) : Int32 := fo (fun j x => x + R (w + j)) (np R) 0
def tB (R : Nat → Int32) (a b : Nat) : Int32 := fo (fun k x => x + (1 + R (10 + (min a b + k)))) (max a b - min a b) 0
def high (R : Nat → Int32) (b j : Nat) : Bool := decide (¬ R (25 + j) ≤ 0) && decide (¬ bg R b 2 ≤ R (25 + j))
def th (R : Nat → Int32) (b a t : Nat) : Bool := (List.range (max a t - min a t)).any (fun k => high R b (min a t + k))
def obs (R : Nat → Int32) (b t : Nat) : Int32 := if inL R b then 1 else if bg R b 1 = nI t then 2 else if th R b (pl R b) t then 3 else 0
def near (R : Nat → Int32) (q : Nat) : Nat := fo (fun k y => if tB R (pl R (k + 1)) q < tB R (pl R y) q then k + 1 else y) (nb R - 1) 0
theorem fo_inv {α : Type} {f : Nat → α → α} (P : α → Prop) {n : Nat} {a : α} (h0 : P a) (h : ∀ k, k < n → ∀ a, P a → P (f k a)) : P (fo f n a) := by
  induction n with
  | zero => exact h0
  | succ n ih => exact h n (by omega) _ (ih (fun k hk => h k (by omega)))
theorem fo_inv' {α : Type} {f : Nat → α → α} (P : Nat → α → Prop) {n : Nat} {a : α} (h0 : P 0 a) (h : ∀ k, k < n → ∀ a, P k a → P (k + 1) (f k a)) : P n (fo f n a) := by
  induction n with
  | zero => exact h0
  | succ n ih => exact h n (by omega) _ (ih (fun k hk => h k (by omega)))
theorem near_lt {R : Nat → Int32} (q : Nat) (h : 1 ≤ nb R) : near R q < nb R := by
  unfold near
  refine fo_inv (fun y => y < nb R) (by omega) (fun k hk a ha => ?_)
  split <;> omega
theorem any_range {p : Nat → Bool} {n : Nat} (h : ∀ j, j < n → p j = false) : (List.range n).any p = false := by
  rw [List.any_eq_false]
  exact fun x hx => by rw [h x (List.mem_range.1 hx)]; decide
theorem any_range1 {p : Nat → Bool} {n k : Nat} (hk : k < n) (h : p k = true) : (List.range n).any p = true := List.any_eq_true.2 ⟨k, List.mem_range.2 hk, h⟩
theorem n10 (k : Nat) : (10 : Int32) + nI k = nI (10 + k) := nI_add 10 k
theorem n25 (k : Nat) : (25 : Int32) + nI k = nI (25 + k) := nI_add 25 k
theorem n40 (k : Nat) : (40 : Int32) + nI k = nI (40 + k) := nI_add 40 k
theorem n56 (k : Nat) : (56 : Int32) + nI k = nI (56 + k) := nI_add 56 k
section READS
variable {M : TM} {r c T : Nat} {R : Nat → Int32} {K : Int32 → TM → Prop} {KV : TM → Prop} {p q s : Int32} {b o f j a t : Nat}
theorem Rw.rd (hr : Rw M r) {x : Int32} {i : Nat} (e : x = nI i) (hi : i < 377) : (uR M r R) (700 + ((uR M r R) 699 6).toNatClampNeg) x.toNatClampNeg = R i := by
  rw [hr.c, uR_s, e, nI_clamp (by omega)]
theorem m_least (h : K (nI (min a t)) M) (ha : a < 2 ^ 31) (ht : t < 2 ^ 31) : f_X13_least (nI a) (nI t) M K := by
  unfold f_X13_least
  rw [nI_leI ht ha]
  exact ⟨fun c => by rw [show min a t = t by omega] at h; exact h, fun c => by rw [show min a t = a by omega] at h; exact h⟩
theorem m_most (h : K (nI (max a t)) M) (ha : a < 2 ^ 31) (ht : t < 2 ^ 31) : f_X13_most (nI a) (nI t) M K := by
  unfold f_X13_most
  rw [nI_leI ha ht]
  exact ⟨fun c => by rw [show max a t = t by omega] at h; exact h, fun c => by rw [show max a t = a by omega] at h; exact h⟩
theorem m_tB (hr : Rw M r) (e1 : p = nI a) (e2 : q = nI t) (ha : a < 16) (ht : t < 16) (h : K (tB R a t) (uR M r R)) : f_X13_timeFor p q (uR M r R) K := by
  subst e1 e2
  unfold f_X13_timeFor
  refine m_least ?_ (by omega) (by omega)
  refine fo_loop (fun n x k => f_X13_timeFor_L9 (nI a) (nI t) K n (nI a) (nI t) x (nI (min a t + k)) (uR M r R)) (fun k x => x + (1 + R (10 + (min a t + k)))) 0 (max a t - min a t) (fun n => ?_) (fun n x k hk hL => ?_)
  · rw [f_X13_timeFor_L9]
    refine m_most ?_ (by omega) (by omega)
    exact cT' (nI_le (by omega) (by omega)) h
  · rw [f_X13_timeFor_L9]
    refine m_most ?_ (by omega) (by omega)
    refine cN' (nI_ge (by omega) (by omega)) ⟨hr.v R, vlt (n := 10 + (min a t + k)) (n10 _) (by omega) (by decide), ?_⟩
    rw [hr.rd (n10 _) (by omega), nI_1]
    exact hL
theorem m_th (hr : Rw M r) (e1 : p = nI b) (e2 : q = nI t) (hb : b < 5) (ht : t < 16) (w : bg R b 0 = nI (pl R b)) (hp : pl R b < 16) (h : K (bi (th R b (pl R b) t)) (uR M r R)) : f_X13_isTooHigh p q (uR M r R) K := by
  subst e2
  unfold f_X13_isTooHigh
  refine m_of hr e1 (f := 0) rfl hb (by decide) ?_
  rw [w]
  refine m_least ?_ (by omega) (by omega)
  refine m_of hr e1 (f := 0) rfl hb (by decide) ?_
  rw [w]
  refine m_most ?_ (by omega) (by omega)
  refine ⟨_, inv_loop (fun n (_ : Unit) k => f_X13_isTooHigh_L26 p (nI t) K n p (nI (max (pl R b) t)) (nI (min (pl R b) t + k)) (uR M r R)) (fun k _ => ∀ j, j < k → high R b (min (pl R b) t + j) = false) (max (pl R b) t - min (pl R b) t) ?_ ?_ (max (pl R b) t - min (pl R b) t) 0 () (Nat.zero_add _) (fun j hj => absurd hj (Nat.not_lt_zero _))⟩
  · intro n _ hI
    rw [f_X13_isTooHigh_L26]
    exact cT' (nI_le (by omega) (by omega)) (K_of h (by unfold th; rw [any_range hI]; rfl))
  · intro n _ k hk hI hL
    rw [f_X13_isTooHigh_L26]
    have go : high R b (min (pl R b) t + k) = false → f_X13_isTooHigh_L26 p (nI t) K n p (nI (max (pl R b) t)) (nI (min (pl R b) t + k) + 1) (uR M r R) := fun e => by
      rw [nI_1]
      exact hL () (fun j hj => by
        by_cases e' : j = k
        · rw [e']; exact e
        · exact hI j (by omega))
    refine cN' (nI_ge (by omega) (by omega)) ⟨hr.v R, vlt (n := 25 + (min (pl R b) t + k)) (n25 _) (by omega) (by decide), ?_⟩
    rw [hr.rd (n25 _) (by omega)]
    refine ⟨fun c1 => go (by simp [high, c1]), fun c1 => ⟨hr.v R, vlt (n := 25 + (min (pl R b) t + k)) (n25 _) (by omega) (by decide), ?_⟩⟩
    refine m_of hr e1 (f := 2) rfl hb (by decide) ?_
    refine ⟨fun c2 => go (by simp [high, c2]), fun c2 => K_of h ?_⟩
    unfold th
    rw [any_range1 hk (by unfold high; rw [decide_eq_true c1, decide_eq_true c2]; rfl)]
    rfl
theorem m_obs (hr : Rw M r) (e1 : p = nI b) (e2 : q = nI t) (hb : b < 5) (ht : t < 16) (w : bg R b 0 = nI (pl R b)) (hp : pl R b < 16) (h : K (obs R b t) (uR M r R)) : f_X13_whyNotSail p q (uR M r R) K := by
  unfold f_X13_whyNotSail
  refine m_isInLock hr e1 hb ?_
  refine bF (fun h1 => K_of h (by simp [obs, h1])) (fun h0 => ?_)
  refine m_of hr e1 (f := 1) rfl hb (by decide) ?_
  refine ⟨fun c1 => ?_, fun c1 => K_of h (by rw [e2] at c1; simp [obs, h0, c1])⟩
  refine m_th hr e1 e2 hb ht w hp ?_
  rw [e2] at c1
  exact bF (fun h1 => K_of h (by simp [obs, h0, c1, h1])) (fun h1 => K_of h (by simp [obs, h0, c1, h1]))
theorem m_cOrd (hr : Rw M r) (ix : Ix R) (h : K (nI (cOrd R s)) (uR M r R)) : ∃ n, f_X13_ordersAt_L18 s K n s 0 0 (uR M r R) := by
  have hb5 := ix.2.2.2
  refine fo_loop (fun n a k => f_X13_ordersAt_L18 s K n s a (nI k) (uR M r R)) (fun k x => x + bi (decide (og R k 0 = s) && alive R k)) 0 (no R) (fun n => ?_) (fun n a k hk hL => ?_)
  · rw [f_X13_ordersAt_L18, hr.no ix]
    exact ⟨hr.v R, vv3, cT' (nI_le (Nat.le_refl _) (by omega)) (K_of h (by rw [show (0 : Int32) = nI 0 from rfl, fo_cn, Nat.zero_add]; rfl))⟩
  · rw [f_X13_ordersAt_L18, hr.no ix]
    refine ⟨hr.v R, vv3, cN' (nI_ge hk (by omega)) ?_⟩
    refine m_ofO hr (o := k) (f := 0) rfl rfl (by omega) (by decide) ?_
    rw [nI_1]
    refine ⟨fun c0 => ?_, fun c0 => ?_⟩
    · rw [show (decide (og R k 0 = s) && alive R k) = false by simp [c0]] at hL; exact hL
    · refine m_alive hr rfl (by omega) ?_
      refine bF (fun h1 => ?_) (fun h0 => ?_)
      · rw [show (decide (og R k 0 = s) && alive R k) = true by simp [h1, c0]] at hL; exact hL
      · rw [show (decide (og R k 0 = s) && alive R k) = false by simp [h0]] at hL; exact hL
theorem m_sFl (hr : Rw M r) (ix : Ix R) (h : K (sFl R s) (uR M r R)) : ∃ n, f_X13_flourNeeded_L18 s K n s 0 0 (uR M r R) := by
  have hb5 := ix.2.2.2
  refine fo_loop (fun n a k => f_X13_flourNeeded_L18 s K n s a (nI k) (uR M r R)) (fun k x => x + (if bel R k s 1 && decide (og R k 6 = 0) then og R k 1 else 0)) 0 (no R) (fun n => ?_) (fun n a k hk hL => ?_)
  · rw [f_X13_flourNeeded_L18, hr.no ix]
    exact ⟨hr.v R, vv3, cT' (nI_le (Nat.le_refl _) (by omega)) h⟩
  · rw [f_X13_flourNeeded_L18, hr.no ix]
    refine ⟨hr.v R, vv3, cN' (nI_ge hk (by omega)) ?_⟩
    refine m_bel hr rfl (by omega) ?_
    rw [nI_1]
    refine bF (fun h1 => ?_) (fun h0 => ?_)
    · refine m_ofO hr (o := k) (f := 6) rfl rfl (by omega) (by decide) ?_
      refine ⟨fun c0 => ?_, fun c0 => ?_⟩
      · rw [h1, decide_eq_false c0] at hL; exact hL
      · refine m_ofO hr (o := k) (f := 1) rfl rfl (by omega) (by decide) ?_
        rw [h1, decide_eq_true c0] at hL; exact hL
    · rw [h0] at hL; exact hL
theorem urg_cases (R : Nat → Int32) : ∀ n, (fo (fun o y => if decide (og R o 4 = 0) && (decide (y = -1) || decide (og R o 3 < og R y.toNatClampNeg 3)) then nI o else y) n (-1)) = -1 ∨ ∃ k, k < n ∧ (fo (fun o y => if decide (og R o 4 = 0) && (decide (y = -1) || decide (og R o 3 < og R y.toNatClampNeg 3)) then nI o else y) n (-1)) = nI k := by
  intro n
  induction n with
  | zero => exact Or.inl rfl
  | succ n ih =>
    show (ite _ _ _) = _ ∨ ∃ k, k < n + 1 ∧ ite _ _ _ = nI k
    split
    · exact Or.inr ⟨n, by omega, rfl⟩
    · rcases ih with h | ⟨k, h1, h2⟩
      · exact Or.inl h
      · exact Or.inr ⟨k, by omega, h2⟩
theorem m_urg (hr : Rw M r) (ix : Ix R) (h : K (urg R) (uR M r R)) : ∃ n, f_X13_mostUrgentOrder_L9 K n (-1) 0 (uR M r R) := by
  have hb5 := ix.2.2.2
  refine ⟨_, inv_loop (fun n a k => f_X13_mostUrgentOrder_L9 K n a (nI k) (uR M r R)) (fun k s => s = fo (fun o y => if decide (og R o 4 = 0) && (decide (y = -1) || decide (og R o 3 < og R y.toNatClampNeg 3)) then nI o else y) k (-1)) (no R) (fun n s hs => ?_) (fun n s k hk hs hL => ?_) (no R) 0 (-1) (Nat.zero_add _) rfl⟩
  · rw [f_X13_mostUrgentOrder_L9, hr.no ix]
    exact ⟨hr.v R, vv3, cT' (nI_le (Nat.le_refl _) (by omega)) (by rw [hs]; exact h)⟩
  · rw [f_X13_mostUrgentOrder_L9, hr.no ix]
    have hc := urg_cases R k
    rw [← hs] at hc
    replace hL := hL _ rfl
    rw [show fo (fun o y => if decide (og R o 4 = 0) && (decide (y = -1) || decide (og R o 3 < og R y.toNatClampNeg 3)) then nI o else y) (k + 1) (-1) = if decide (og R k 4 = 0) && (decide (s = -1) || decide (og R k 3 < og R s.toNatClampNeg 3)) then nI k else s from by rw [hs]; rfl] at hL
    refine ⟨hr.v R, vv3, cN' (nI_ge hk (by omega)) ?_⟩
    refine m_isIn hr rfl (by omega) ?_
    rw [nI_1]
    refine pF (fun c1 => ?_) (fun c1 => by rw [if_neg (by simp [c1])] at hL; exact hL)
    refine ⟨fun c2 => by rw [if_pos (by simp [c1, c2])] at hL; exact hL, fun c2 => ?_⟩
    rcases hc with hc | ⟨j, hj, hc⟩
    · exact absurd hc c2
    · refine m_ofO hr (o := k) (f := 3) rfl rfl (by omega) (by decide) ?_
      refine m_ofO hr (o := j) (f := 3) hc rfl (by omega) (by decide) ?_
      have e : s.toNatClampNeg = j := by rw [hc, nI_clamp (by omega)]
      rw [e] at hL
      refine ⟨fun c3 => ?_, fun c3 => ?_⟩
      · rw [if_neg (by simp [c2]; exact fun _ => c3)] at hL; exact hL
      · rw [if_pos (by simp [c1]; exact Or.inr (Int32.not_le.1 c3))] at hL; exact hL
theorem m_sOf (hr : Rw M r) (ix : Ix R) (e1 : p = nI f) (hf : f < 7) (h : K (sOf R f) (uR M r R)) : f_X13_sumOf p (uR M r R) K := by
  unfold f_X13_sumOf
  have hb5 := ix.2.1.2
  refine fo_loop (fun n a k => f_X13_sumOf_L4 p K n p a (nI k) (uR M r R)) (fun b x => x + bg R b f) 0 (nb R) (fun n => ?_) (fun n a k hk hL => ?_)
  · rw [f_X13_sumOf_L4, hr.nb ix]
    exact ⟨hr.v R, vv2, cT' (nI_le (Nat.le_refl _) (by omega)) h⟩
  · rw [f_X13_sumOf_L4, hr.nb ix]
    refine ⟨hr.v R, vv2, cN' (nI_ge hk (by omega)) ?_⟩
    refine m_of hr (b := k) rfl e1 (by omega) hf ?_
    rw [nI_1]
    exact hL
theorem m_sAt (hr : Rw M r) (ix : Ix R) (e1 : p = nI f) (hf : f ≤ 56) (h : K (sAt R f) (uR M r R)) : f_X13_sumAt p (uR M r R) K := by
  unfold f_X13_sumAt
  have hb5 := ix.1.2
  refine fo_loop (fun n a k => f_X13_sumAt_L4 p K n p a (nI k) (uR M r R)) (fun j x => x + R (f + j)) 0 (np R) (fun n => ?_) (fun n a k hk hL => ?_)
  · rw [f_X13_sumAt_L4, hr.np ix]
    exact ⟨hr.v R, vv1, cT' (nI_le (Nat.le_refl _) (by omega)) h⟩
  · rw [f_X13_sumAt_L4, hr.np ix]
    refine ⟨hr.v R, vv1, cN' (nI_ge hk (by omega)) ⟨hr.v R, vlt (n := f + k) (by rw [e1, nI_add]) (by omega) (by decide), ?_⟩⟩
    rw [hr.rd (i := f + k) (by rw [e1, nI_add]) (by omega), nI_1]
    exact hL
theorem m_near (hr : Rw M r) (ix : Ix R) (h1 : 1 ≤ nb R) (wb : ∀ b, b < nb R → bg R b 0 = nI (pl R b) ∧ pl R b < 16) (e1 : q = nI t) (ht : t < 16) (h : K (nI (near R t)) (uR M r R)) : ∃ n, f_X13_nearestBarge_L26 p K n q 0 1 (uR M r R) := by
  have hb5 := ix.2.1.2
  refine ⟨_, inv_loop (fun n a k => f_X13_nearestBarge_L26 p K n q a (nI (1 + k)) (uR M r R)) (fun k s => s = nI (fo (fun k y => if tB R (pl R (k + 1)) t < tB R (pl R y) t then k + 1 else y) k 0) ∧ fo (fun k y => if tB R (pl R (k + 1)) t < tB R (pl R y) t then k + 1 else y) k 0 < nb R) (nb R - 1) (fun n s hs => ?_) (fun n s k hk hs hL => ?_) (nb R - 1) 0 0 (Nat.zero_add _) ⟨rfl, by show 0 < nb R; omega⟩⟩
  · rw [f_X13_nearestBarge_L26, hr.nb ix]
    exact ⟨hr.v R, vv2, cT' (nI_le (by omega) (by omega)) (by rw [hs.1]; exact h)⟩
  · rw [f_X13_nearestBarge_L26, hr.nb ix]
    refine ⟨hr.v R, vv2, cN' (nI_ge (by omega) (by omega)) ?_⟩
    refine m_of hr (b := 1 + k) (f := 0) rfl rfl (by omega) (by decide) ?_
    rw [(wb (1 + k) (by omega)).1]
    refine m_tB hr rfl e1 (wb (1 + k) (by omega)).2 ht ?_
    obtain ⟨hs1, hs2⟩ := hs
    refine m_of hr (f := 0) hs1 rfl (by omega) (by decide) ?_
    rw [(wb _ hs2).1]
    refine m_tB hr rfl e1 (wb _ hs2).2 ht ?_
    have hf : fo (fun k y => if tB R (pl R (k + 1)) t < tB R (pl R y) t then k + 1 else y) (k + 1) 0 = if tB R (pl R (k + 1)) t < tB R (pl R (fo (fun k y => if tB R (pl R (k + 1)) t < tB R (pl R y) t then k + 1 else y) k 0)) t then k + 1 else fo (fun k y => if tB R (pl R (k + 1)) t < tB R (pl R y) t then k + 1 else y) k 0 := rfl
    have hL' := fun s' => hL s'
    rw [nI_1, Nat.add_assoc]
    refine ⟨fun c1 => hL _ ⟨?_, ?_⟩, fun c1 => hL _ ⟨?_, ?_⟩⟩
    · rw [hf, if_neg (by rw [Nat.add_comm k 1]; exact Int32.not_lt.2 c1)]; exact hs1
    · rw [hf, if_neg (by rw [Nat.add_comm k 1]; exact Int32.not_lt.2 c1)]; exact hs2
    · rw [hf, if_pos (by rw [Nat.add_comm k 1]; exact Int32.not_le.1 c1), Nat.add_comm 1 k]
    · rw [hf, if_pos (by rw [Nat.add_comm k 1]; exact Int32.not_le.1 c1)]; omega
end READS
