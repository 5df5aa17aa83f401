/-! further reading methods of the class -/
theorem fo_foldl (g : Nat → Int32) (l : List Nat) : ∀ n, n ≤ l.length → ∀ a, fo (fun i x => x + g (l.getD i 0)) n a = (l.take n).foldl (fun x o => x + g o) a := by
  intro n
  induction n with
  | zero => intro _ a; rfl
  | succ n ih =>
    intro hn a
    show fo _ n a + g (l.getD n 0) = _
    rw [ih (by omega), List.take_succ_eq_append_getElem (by omega), List.foldl_append]
    simp [List.getD_eq_getElem?_getD, List.getElem?_eq_getElem (show n < l.length by omega)]
theorem fo_filter (p : Nat → Bool) (g : Nat → Int32) : ∀ n a, fo (fun o x => x + (if p o then g o else 0)) n a = ((List.range n).filter p).foldl (fun x o => x + g o) a := by
  intro n
  induction n with
  | zero => intro a; rfl
  | succ n ih =>
    intro a
    show fo _ n a + _ = _
    rw [ih, List.range_succ, List.filter_append, List.foldl_append]
    cases h : p n <;> simp [h]
theorem fo_tail {f : Nat → Int32 → Int32} (a : Int32) (n : Nat) : ∀ d, (∀ k x, n ≤ k → k < n + d → f k x = x) → fo f (n + d) a = fo f n a := by
  intro d
  induction d with
  | zero => intro _; rfl
  | succ d ih => intro h; show f (n + d) (fo f (n + d) a) = _; rw [h _ _ (by omega) (by omega), ih (fun k x h1 h2 => h k x h1 (by omega))]
theorem fo_add (g : Nat → Int32) (a : Int32) : ∀ n, fo (fun k x => x + g k) n a = a + fo (fun k x => x + g k) n 0 := by
  intro n
  induction n with
  | zero => exact (Int32.add_zero a).symm
  | succ n ih => show fo _ n a + g n = a + (fo _ n 0 + g n); rw [ih, Int32.add_assoc]
section CREADS
variable {M : TM} {c T : Nat} {R : Nat → Int32} {K : Int32 → TM → Prop} {p q s : Int32} {b o f j a t : Nat}
theorem c_tB (w : WF T R) (h : RelC c M R) (e1 : p = nI a) (e2 : q = nI t) (ha : a < np R) (ht : t < np R) (hK : K (tB R a t) M) : f_X2_timeBetween c p q M K := by
  subst e1 e2
  have h16 := w.np16
  unfold f_X2_timeBetween
  rw [show (if nI a < nI t then nI t else nI a) = nI (max a t) by
    by_cases e : a < t
    · rw [if_pos (nI_lt e (by omega)), show max a t = t by omega]
    · rw [if_neg (nI_nlt (by omega) (by omega)), show max a t = a by omega],
    show (if nI t < nI a then nI t else nI a) = nI (min a t) by
    by_cases e : t < a
    · rw [if_pos (nI_lt e (by omega)), show min a t = t by omega]
    · rw [if_neg (nI_nlt (by omega) (by omega)), show min a t = a by omega]]
  refine fo_loop (fun n x k => f_X2_timeBetween_L16 c (nI a) (nI t) K n x (nI (max a t)) (nI (min a t + k)) M) (fun k x => x + (1 + R (10 + (min a t + k)))) 0 (max a t - min a t) (fun n => ?_) (fun n x k hk hL => ?_)
  · rw [f_X2_timeBetween_L16]
    exact cT' (nI_le (by omega) (by omega)) hK
  · rw [f_X2_timeBetween_L16]
    refine cN' (nI_ge (by omega) (by omega)) ?_
    refine c_hasSection w h ?_
    rw [inR_nI (by omega) (by omega), nI_1]
    refine bF (fun _ => ⟨vp_in_nI (by omega) (by decide), ?_⟩) (fun c => by cases c)
    rw [nI_clamp (by omega), (h.2.1 _ (by omega)).1]
    exact hL
theorem c_th (w : WF T R) (h : RelC c M R) (hb : b < nb R) (e2 : q = nI t) (ht : t < np R) (hK : K (bi (!th R b (pl R b) t)) M) : f_X2_fitsUnderBridges c (c + 21 + 2 * b) q M K := by
  subst e2
  have h16 := w.np16
  have hp := (w.2.1 b hb).ePl
  unfold f_X2_fitsUnderBridges
  rw [(h.2.2.2.1 b hb).1, hp.1, show (if nI (pl R b) < nI t then nI t else nI (pl R b)) = nI (max (pl R b) t) by
    by_cases e : pl R b < t
    · rw [if_pos (nI_lt e (by omega)), show max (pl R b) t = t by omega]
    · rw [if_neg (nI_nlt (by omega) (by omega)), show max (pl R b) t = pl R b by omega],
    show (if nI t < nI (pl R b) then nI t else nI (pl R b)) = nI (min (pl R b) t) by
    by_cases e : t < pl R b
    · rw [if_pos (nI_lt e (by omega)), show min (pl R b) t = t by omega]
    · rw [if_neg (nI_nlt (by omega) (by omega)), show min (pl R b) t = pl R b by omega]]
  have hp2 := hp.2
  refine ⟨_, inv_loop (fun n (_ : Unit) k => f_X2_fitsUnderBridges_L19 c (c + 21 + 2 * b) (nI t) K n (nI (max (pl R b) t)) (nI (min (pl R b) t + k)) M) (fun k _ => ∀ j, j < k → high R b (min (pl R b) t + j) = false) (max (pl R b) t - min (pl R b) t) ?_ ?_ (max (pl R b) t - min (pl R b) t) 0 () (Nat.zero_add _) (fun j hj => absurd hj (Nat.not_lt_zero _))⟩
  · intro n _ hI
    rw [f_X2_fitsUnderBridges_L19]
    exact cT' (nI_le (by omega) (by omega)) (K_of hK (by unfold th; rw [any_range hI]; rfl))
  · intro n _ k hk hI hL
    rw [f_X2_fitsUnderBridges_L19]
    have go : high R b (min (pl R b) t + k) = false → f_X2_fitsUnderBridges_L19 c (c + 21 + 2 * b) (nI t) K n (nI (max (pl R b) t)) (nI (min (pl R b) t + k) + 1) M := fun e => by
      rw [nI_1]
      exact hL () (fun j hj => by
        by_cases e' : j = k
        · rw [e']; exact e
        · exact hI j (by omega))
    refine cN' (nI_ge (by omega) (by omega)) ?_
    refine c_hasSection w h ?_
    rw [inR_nI (by omega) (by omega)]
    refine bF (fun _ => ⟨vp_in_nI (by omega) (by decide), ?_⟩) (fun c => by cases c)
    rw [nI_clamp (by omega), (h.2.1 _ (by omega)).2.1, (h.2.2.2.1 b hb).2.2.1]
    refine ⟨fun c1 => go (by simp [high, c1]), fun c1 => ⟨vp_in_nI (by omega) (by decide), fun c2 => go (by simp [high, c2]), fun c2 => K_of hK ?_⟩⟩
    unfold th
    rw [any_range1 hk (by unfold high; rw [decide_eq_true c1, decide_eq_true c2]; rfl)]
    rfl
theorem c_obs (w : WF T R) (h : RelC c M R) (e1 : p = nI b) (hb : b < nb R) (e2 : q = nI t) (ht : t < np R) (hK : K (obs R b t) M) : f_X2_obstacleFor c p q M K := by
  subst e1
  have h5 := w.nb5
  unfold f_X2_obstacleFor
  refine c_hasBarge w h ?_
  rw [inR_nI hb (by omega), nI_clamp (by omega)]
  refine bF (fun _ => ⟨vp_in_nI (by omega) (by decide), ?_⟩) (fun c => by cases c)
  refine c_inLock w h hb ?_
  refine bF (fun h1 => K_of hK (by simp [obs, h1])) (fun h0 => ⟨vp_in_nI (by omega) (by decide), ?_⟩)
  rw [(h.2.2.2.1 b hb).2.1]
  refine ⟨fun c1 => ⟨vp_in_nI (by omega) (by decide), ?_⟩, fun c1 => K_of hK (by rw [e2] at c1; simp [obs, h0, c1])⟩
  refine c_th w h hb e2 ht ?_
  rw [e2] at c1
  exact bF (fun h1 => K_of hK (by simp at h1; simp [obs, h0, c1, h1])) (fun h1 => K_of hK (by simp at h1; simp [obs, h0, c1, h1]))
theorem c_sFl (w : WF T R) (h : RelC c M R) (hb : b < nb R) (hK : K (sFl R (nI b)) M) : f_X2_bowlsNotBegun c (c + 21 + 2 * b) M K := by
  unfold f_X2_bowlsNotBegun
  have h30 := w.no30
  obtain ⟨l, hq, h1, h2⟩ := h.2.2.2.2.1 b hb
  have h4 := qlen4 w hb hq
  refine fo_loop (fun n a k => f_X2_bowlsNotBegun_L4 c (c + 21 + 2 * b) K n a (nI k) M) (fun i x => x + (fun o => if decide (og R o 6 = 0) then og R o 1 else 0) (l.getD i 0)) 0 l.length (fun n => ?_) (fun n a k hk hL => ?_)
  · rw [f_X2_bowlsNotBegun_L4, h1]
    refine cT' (nI_le (Nat.le_refl _) (by omega)) (K_of hK ?_)
    rw [fo_foldl (fun o => if decide (og R o 6 = 0) then og R o 1 else 0) l _ (Nat.le_refl _), List.take_length, hq.perm.foldl_eq' (fun x _ y _ z => by rw [Int32.add_assoc, Int32.add_comm (ite _ _ _), ← Int32.add_assoc])]
    rw [← fo_filter (fun o => bel R o (nI b) 1) (fun o => if decide (og R o 6 = 0) then og R o 1 else 0)]
    unfold sFl
    congr 1
    funext o x
    cases bel R o (nI b) 1 <;> simp
  · rw [f_X2_bowlsNotBegun_L4, h1]
    refine cN' (nI_ge hk (by omega)) ?_
    refine c_queuedAt w h hb ?_
    have e : qd R (nI b) (nI k) = nI l[k] := by
      rw [hq.qv (by omega), dif_pos (inR_nI hk (by omega))]
      congr 1
      congr 1
      exact nI_clamp (by omega)
    have hm := (hq.2 l[k]).1 (List.getElem_mem hk)
    rw [e]
    refine c_hasOrder w h ?_
    rw [inR_nI hm.1 (by omega), nI_clamp (by omega), nI_1]
    refine bF (fun _ => ⟨vp_in_nI (by omega) (by decide), ?_⟩) (fun c => by cases c)
    have ho := h.2.2.2.2.2 _ hm.1
    rw [ho.2.2.2.2.2.1, ho.2.1]
    have e2 : l.getD k 0 = l[k] := by simp [List.getD_eq_getElem?_getD, hk]
    dsimp only at hL
    rw [e2] at hL
    refine ⟨fun c0 => ?_, fun c0 => ⟨vp_in_nI (by omega) (by decide), ?_⟩⟩
    · rw [decide_eq_false c0] at hL; simpa using hL
    · rw [decide_eq_true c0] at hL; exact hL
theorem c_urg (w : WF T R) (h : RelC c M R) (hK : K (urg R) M) : f_X2_firstOpenByDeadline c M K := by
  unfold f_X2_firstOpenByDeadline
  have hb5 := w.no30
  refine ⟨_, inv_loop (fun n (a : Int32 × Int32) k => f_X2_firstOpenByDeadline_L6 c K n a.1 a.2 (nI k) M) (fun k s => s.1 = fo (fun o y => if decide (og R o 4 = 0) && (decide (y = -1) || decide (og R o 3 < og R y.toNatClampNeg 3)) then nI o else y) k (-1) ∧ (s.1 = -1 ∨ s.2 = og R s.1.toNatClampNeg 3)) (no R) (fun n s hs => ?_) (fun n s k hk hs hL => ?_) (no R) 0 (-1, 0) (Nat.zero_add _) ⟨rfl, Or.inl rfl⟩⟩
  · rw [f_X2_firstOpenByDeadline_L6, h.1.2.2.1, w.1.1.2.2.1]
    exact cT' (nI_le (Nat.le_refl _) (by omega)) (by rw [hs.1]; exact hK)
  · rw [f_X2_firstOpenByDeadline_L6, h.1.2.2.1, w.1.1.2.2.1]
    obtain ⟨s1, s2⟩ := s
    obtain ⟨hs1, hs2⟩ := hs
    dsimp only at hs1 hs2 ⊢
    have hf : fo (fun o y => if decide (og R o 4 = 0) && (decide (y = -1) || decide (og R o 3 < og R y.toNatClampNeg 3)) then nI o else y) (k + 1) (-1) = if decide (og R k 4 = 0) && (decide (s1 = -1) || decide (og R k 3 < og R s1.toNatClampNeg 3)) then nI k else s1 := by rw [hs1]; rfl
    refine cN' (nI_ge hk (by omega)) ⟨vp_in_nI (by omega) (by decide), ?_⟩
    have ho := h.2.2.2.2.2 k hk
    rw [nI_clamp (by omega), ho.2.2.2.2.2.2.1, ho.2.2.2.2.1, nI_1]
    refine ⟨WO.st w hk, fun c1 => hL (s1, s2) ⟨?_, hs2⟩, fun c1 => ⟨fun c2 => ⟨vp_in_nI (by omega) (by decide), hL (nI k, og R k 3) ⟨?_, Or.inr ?_⟩⟩, fun c2 => ⟨vp_in_nI (by omega) (by decide), fun c3 => hL (s1, s2) ⟨?_, hs2⟩, fun c3 => ⟨vp_in_nI (by omega) (by decide), hL (nI k, og R k 3) ⟨?_, Or.inr ?_⟩⟩⟩⟩⟩
    · rw [hf, if_neg (by simp [c1])]
    · rw [hf, if_pos (by simp [c1, c2])]
    · show og R k 3 = og R (nI k).toNatClampNeg 3
      rw [nI_clamp (by omega)]
    · rcases hs2 with hs2 | hs2
      · exact absurd hs2 c2
      · rw [hf, if_neg (by simp [c2]; rw [← hs2]; exact fun _ => c3)]
    · rcases hs2 with hs2 | hs2
      · exact absurd hs2 c2
      · rw [hf, if_pos (by simp [c1]; rw [← hs2]; exact Or.inr (Int32.not_le.1 c3))]
    · show og R k 3 = og R (nI k).toNatClampNeg 3
      rw [nI_clamp (by omega)]
theorem c_clean (w : WF T R) (h : RelC c M R) (hK : K (sOf R 4) M) : f_X2_sumOfCleanPairs c M K := by
  unfold f_X2_sumOfCleanPairs
  have hb5 := w.nb5
  refine fo_loop (fun n a k => f_X2_sumOfCleanPairs_L4 c K n a (nI k) M) (fun b x => x + bg R b 4) 0 (nb R) (fun n => ?_) (fun n a k hk hL => ?_)
  · rw [f_X2_sumOfCleanPairs_L4, h.1.2.1, w.1.1.2.1.1]
    exact cT' (nI_le (Nat.le_refl _) (by omega)) hK
  · rw [f_X2_sumOfCleanPairs_L4, h.1.2.1, w.1.1.2.1.1]
    refine cN' (nI_ge hk (by omega)) ⟨vp_in_nI (by omega) (by decide), ?_⟩
    rw [nI_clamp (by omega), (h.2.2.2.1 k hk).2.2.2.2.2.1, nI_1]
    exact hL
def absI (x : Int32) : Int32 := if 0 ≤ x then x else 0 - x
theorem sAt16 (w : WF T R) (u : Nat) (hu : u = 40 ∨ u = 56) : fo (fun j x => x + R (u + j)) 16 0 = sAt R u := by
  have h16 := w.np16
  unfold sAt
  conv => lhs; rw [show 16 = np R + (16 - np R) by omega]
  refine fo_tail _ _ _ (fun k x h1 h2 => ?_)
  have := w.1.2.2.2.2.2.2.2 k h1 (by omega)
  rcases hu with rfl | rfl
  · rw [this.1, Int32.add_zero]
  · rw [this.2, Int32.add_zero]
theorem c_pgap (w : WF T R) (h : RelC c M R) (hK : K (absI (R 7 - (sOf R 4 + sOf R 5 + sAt R 40))) M) : f_X2_pairsGap c M K := by
  unfold f_X2_pairsGap
  have hb5 := w.nb5
  refine c_clean w h ?_
  refine fo_loop (fun n a k => f_X2_pairsGap_L7 c K n a (nI k) M) (fun b x => x + bg R b 5) (sOf R 4) (nb R) (fun n => ?_) (fun n a k hk hL => ?_)
  · rw [f_X2_pairsGap_L7, h.1.2.1, w.1.1.2.1.1]
    refine cT' (nI_le (Nat.le_refl _) (by omega)) ?_
    refine fo_loop (fun n a k => f_X2_pairsGap_L35 c K n a (nI k) M) (fun j x => x + R (40 + j)) _ 16 (fun n => ?_) (fun n a k hk hL => ?_)
    · rw [f_X2_pairsGap_L35, h.1.2.2.2.2.2.1]
      refine cT' (nI_le (a := 16) (b := 16) (Nat.le_refl _) (by omega)) ?_
      rw [fo_add (fun j => R (40 + j)), sAt16 w 40 (Or.inl rfl), fo_add (fun b => bg R b 5)]
      exact hK
    · rw [f_X2_pairsGap_L35]
      refine cN' (nI_ge (b := 16) hk (by omega)) ⟨vp_in_nI (by omega) (by decide), ?_⟩
      rw [nI_clamp (by omega), (h.2.2.1 k hk).1, nI_1]
      exact hL
  · rw [f_X2_pairsGap_L7, h.1.2.1, w.1.1.2.1.1]
    refine cN' (nI_ge hk (by omega)) ⟨vp_in_nI (by omega) (by decide), ?_⟩
    rw [nI_clamp (by omega), (h.2.2.2.1 k hk).2.2.2.2.2.2, nI_1]
    exact hL
theorem c_bgap (w : WF T R) (h : RelC c M R) (hK : K (absI (R 5 - sAt R 56)) M) : f_X2_bowlsGap c M K := by
  unfold f_X2_bowlsGap
  refine fo_loop (fun n a k => f_X2_bowlsGap_L4 c K n a (nI k) M) (fun j x => x + R (56 + j)) 0 16 (fun n => ?_) (fun n a k hk hL => ?_)
  · rw [f_X2_bowlsGap_L4, h.1.2.2.2.2.2.2.1]
    refine cT' (nI_le (a := 16) (b := 16) (Nat.le_refl _) (by omega)) ?_
    rw [sAt16 w 56 (Or.inr rfl)]
    exact hK
  · rw [f_X2_bowlsGap_L4]
    refine cN' (nI_ge (b := 16) hk (by omega)) ⟨vp_in_nI (by omega) (by decide), ?_⟩
    rw [nI_clamp (by omega), (h.2.2.1 k hk).2, nI_1]
    exact hL
theorem c_near (w : WF T R) (h : RelC c M R) (hb1 : 1 ≤ nb R) (e1 : p = nI t) (ht : t < np R) (hK : K (nI (near R t)) M) : f_X2_bargeNearestTo c p M K := by
  subst e1
  unfold f_X2_bargeNearestTo
  have hb5 := w.nb5
  refine ⟨_, inv_loop (fun n (a : Int32 × Int32) k => f_X2_bargeNearestTo_L7 c (nI t) K n (nI t) a.1 a.2 (nI k) M) (fun k s => (k = 0 ∧ s.1 = -1) ∨ (1 ≤ k ∧ s.1 = nI (fo (fun k y => if tB R (pl R (k + 1)) t < tB R (pl R y) t then k + 1 else y) (k - 1) 0) ∧ s.2 = tB R (pl R (fo (fun k y => if tB R (pl R (k + 1)) t < tB R (pl R y) t then k + 1 else y) (k - 1) 0)) t ∧ fo (fun k y => if tB R (pl R (k + 1)) t < tB R (pl R y) t then k + 1 else y) (k - 1) 0 < nb R)) (nb R) (fun n s hs => ?_) (fun n s k hk hs hL => ?_) (nb R) 0 (-1, 0) (Nat.zero_add _) (Or.inl ⟨rfl, rfl⟩)⟩
  · rw [f_X2_bargeNearestTo_L7, h.1.2.1, w.1.1.2.1.1]
    rcases hs with ⟨hs, -⟩ | ⟨-, hs, -⟩
    · omega
    · exact cT' (nI_le (Nat.le_refl _) (by omega)) (by rw [hs]; exact hK)
  · rw [f_X2_bargeNearestTo_L7, h.1.2.1, w.1.1.2.1.1]
    obtain ⟨s1, s2⟩ := s
    dsimp only at hs ⊢
    refine cN' (nI_ge hk (by omega)) ⟨vp_in_nI (by omega) (by decide), ?_⟩
    have hp := (w.2.1 k hk).ePl
    rw [nI_clamp (by omega), (h.2.2.2.1 k hk).1]
    refine c_tB w h hp.1 rfl hp.2 ht ?_
    rw [nI_1]
    rcases hs with ⟨rfl, hs⟩ | ⟨h1, hs1, hs2, hs3⟩
    · refine cT' hs (hL (nI 0, tB R (pl R 0) t) (Or.inr ⟨by omega, rfl, rfl, by show 0 < nb R; omega⟩))
    · obtain ⟨m, rfl⟩ : ∃ m, k = m + 1 := ⟨k - 1, by omega⟩
      simp only [Nat.add_sub_cancel] at hs1 hs2 hs3
      have hf : fo (fun k y => if tB R (pl R (k + 1)) t < tB R (pl R y) t then k + 1 else y) (m + 1) 0 = if tB R (pl R (m + 1)) t < tB R (pl R (fo (fun k y => if tB R (pl R (k + 1)) t < tB R (pl R y) t then k + 1 else y) m 0)) t then m + 1 else fo (fun k y => if tB R (pl R (k + 1)) t < tB R (pl R y) t then k + 1 else y) m 0 := rfl
      refine cN' (by rw [hs1]; exact nI_m1 (by omega)) ?_
      rw [← hs2] at hf
      refine ⟨fun c1 => hL (s1, s2) (Or.inr ⟨by omega, ?_, ?_, ?_⟩), fun c1 => hL (nI (m + 1), tB R (pl R (m + 1)) t) (Or.inr ⟨by omega, ?_, ?_, ?_⟩)⟩ <;> simp only [Nat.add_sub_cancel]
      · rw [hf, if_neg (Int32.not_lt.2 c1)]; exact hs1
      · rw [hf, if_neg (Int32.not_lt.2 c1)]; exact hs2
      · rw [hf, if_neg (Int32.not_lt.2 c1)]; exact hs3
      · rw [hf, if_pos (Int32.not_le.1 c1)]
      · rw [hf, if_pos (Int32.not_le.1 c1)]
      · rw [hf, if_pos (Int32.not_le.1 c1)]; exact hk
end CREADS
