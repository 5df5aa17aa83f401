/-! the class's canal in the cells from c on, against a row R: what its reading methods answer -/
def IsQ (R : Nat → Int32) (b : Nat) (l : List Nat) : Prop := l.Pairwise (fun x y => og R x 8 < og R y 8) ∧ ∀ o, o ∈ l ↔ o < no R ∧ bel R o (nI b) 1 = true
def held (R : Nat → Int32) (b : Nat) : Nat := cn (fun o => bel R o (nI b) 1 || bel R o (nI b) 2) (no R)
def Sc (c : Nat) (M : TM) (R : Nat → Int32) : Prop := M c 0 = R 1 ∧ M c 4 = R 2 ∧ M c 6 = R 3 ∧ M c 8 = R 0 ∧ M c 9 = R 4 ∧ M c 10 = R 7 ∧ M c 11 = R 5 ∧ M c 12 = nI (cIn R 3) ∧ M c 13 = R 6
def Se (k : Nat) (M : TM) (R : Nat → Int32) (j : Nat) : Prop := M k 0 = R (10 + j) ∧ M k 1 = R (25 + j) ∧ M k 2 = who R (nI j)
def Qu (k : Nat) (M : TM) (R : Nat → Int32) (b : Nat) : Prop := ∃ l : List Nat, IsQ R b l ∧ M k 8 = nI l.length ∧ ∀ (i : Nat) (h : i < l.length), M (k + 1) i = nI l[i]
def Ba (k : Nat) (M : TM) (R : Nat → Int32) (b : Nat) : Prop := M k 0 = bg R b 0 ∧ M k 1 = bg R b 1 ∧ M k 2 = bg R b 2 ∧ M k 3 = bg R b 6 ∧ M k 4 = bg R b 3 ∧ M k 5 = bg R b 4 ∧ M k 6 = bg R b 5
def Or (k : Nat) (M : TM) (R : Nat → Int32) (o : Nat) : Prop := M k 0 = og R o 0 ∧ M k 1 = og R o 1 ∧ M k 2 = og R o 2 ∧ M k 3 = og R o 7 ∧ M k 4 = og R o 3 ∧ bz (M k 5) = og R o 6 ∧ M k 6 = og R o 4 ∧ M k 7 = og R o 5
def RelC (c : Nat) (M : TM) (R : Nat → Int32) : Prop :=
  Sc c M R ∧ (∀ j, j < 15 → Se (c + 6 + j) M R j) ∧ (∀ j, j < 16 → M (c + 2) j = R (40 + j) ∧ M (c + 3) j = R (56 + j)) ∧
  (∀ b, b < nb R → Ba (c + 21 + 2 * b) M R b) ∧ (∀ b, b < nb R → Qu (c + 21 + 2 * b) M R b) ∧ ∀ o, o < no R → Or (c + 31 + o) M R o
/-- what holds of every row that is played on -/
def WB (R : Nat → Int32) (b : Nat) : Prop := ∃ p t v, p < np R ∧ t < np R ∧ v ≤ 9 ∧ bg R b 0 = nI p ∧ bg R b 1 = nI t ∧ bg R b 6 = nI v ∧ (v ≠ 0 → p ≠ t)
def WO (R : Nat → Int32) (o : Nat) : Prop := ∃ p s, p < np R ∧ s < 5 ∧ og R o 0 = nI p ∧ og R o 4 = nI s ∧ (og R o 6 = 0 ∨ og R o 6 = 1) ∧ ((s = 1 ∨ s = 2) → ∃ b, b < nb R ∧ og R o 5 = nI b) ∧ (¬ (s = 1 ∨ s = 2) → og R o 5 = -1) ∧ (s = 1 → ∃ t, t < (R 8).toNatClampNeg ∧ og R o 8 = nI t)
def WS (T : Nat) (R : Nat → Int32) : Prop := Ix R ∧ 3 ≤ np R ∧ True ∧ (∃ m, m ≤ 10000 ∧ R 0 = nI m) ∧ (∃ t, t ≤ T ∧ R 8 = nI t) ∧ R 6 = nI (cIn R 4) ∧ (∀ j, j < 15 → ∃ v, v ≤ 9 ∧ R (10 + j) = nI v) ∧ ∀ j, np R ≤ j → j < 16 → R (40 + j) = 0 ∧ R (56 + j) = 0
def WL (R : Nat → Int32) : Prop := ∀ b d, b < nb R → d < nb R → inL R b = true → inL R d = true → ahead R b = ahead R d → b = d
def WT (R : Nat → Int32) : Prop := ∀ o q, o < no R → q < no R → og R o 4 = 1 → og R q 4 = 1 → og R o 8 = og R q 8 → o = q
def WF (T : Nat) (R : Nat → Int32) : Prop := WS T R ∧ (∀ b, b < nb R → WB R b) ∧ (∀ o, o < no R → WO R o) ∧ WL R ∧ (∀ b, b < nb R → held R b ≤ 4) ∧ WT R
theorem WF.ix {T : Nat} {R : Nat → Int32} (w : WF T R) : Ix R := w.1.1
theorem WF.nb5 {T : Nat} {R : Nat → Int32} (w : WF T R) : nb R ≤ 5 := w.1.1.2.1.2
theorem WF.no30 {T : Nat} {R : Nat → Int32} (w : WF T R) : no R ≤ 30 := w.1.1.2.2.2
theorem WF.np16 {T : Nat} {R : Nat → Int32} (w : WF T R) : np R ≤ 16 := w.1.1.1.2
theorem WF.np3 {T : Nat} {R : Nat → Int32} (w : WF T R) : 3 ≤ np R := w.1.2.1
theorem WF.mono {T U : Nat} {R : Nat → Int32} (h : T ≤ U) (w : WF T R) : WF U R := by
  obtain ⟨⟨h1, h2, h3, h4, ⟨t, h5, h6⟩, h7⟩, w2⟩ := w
  exact ⟨⟨h1, h2, h3, h4, ⟨t, by omega, h6⟩, h7⟩, w2⟩
section CREAD
variable {M : TM} {c T : Nat} {R : Nat → Int32} {K : Int32 → TM → Prop} {KV : TM → Prop} {p q s : Int32} {b o f j : Nat}
theorem c_inLock (w : WF T R) (h : RelC c M R) (hb : b < nb R) (hK : K (bi (inL R b)) M) : f_X1_isInLock (c + 21 + 2 * b) M K := by
  unfold f_X1_isInLock
  rw [(h.2.2.2.1 b hb).2.2.2.1]
  exact rt0 hK
theorem c_underWay (h : RelC c M R) (hb : b < nb R) (hK : K (bi (sails R b)) M) : f_X1_isUnderWay (c + 21 + 2 * b) M K := by
  unfold f_X1_isUnderWay
  rw [(h.2.2.2.1 b hb).1, (h.2.2.2.1 b hb).2.1]
  exact rt0 hK
theorem c_hasPlace (w : WF T R) (h : RelC c M R) (hK : K (bi (inR p (np R))) M) : f_X2_hasPlace c p M K := cl_rng (by rw [h.1.1]; exact w.1.1.1.1) hK
theorem c_hasBarge (w : WF T R) (h : RelC c M R) (hK : K (bi (inR p (nb R))) M) : f_X2_hasBarge c p M K := cl_rng (by rw [h.1.2.1]; exact w.1.1.2.1.1) hK
theorem c_hasOrder (w : WF T R) (h : RelC c M R) (hK : K (bi (inR p (no R))) M) : f_X2_hasOrder c p M K := cl_rng (by rw [h.1.2.2.1]; exact w.1.1.2.2.1) hK
theorem c_hasSection (w : WF T R) (h : RelC c M R) (hK : K (bi (inR p (np R - 1))) M) : f_X2_hasSection c p M K := cl_rng (by
  have h3 := w.np3
  rw [h.1.1, w.1.1.1.1, show (1 : Int32) = nI 1 from rfl, nI_sub (by omega)]) hK
/-- the queue of a barge: its length, its places -/
theorem IsQ.nd {l : List Nat} (h : IsQ R b l) : l.Nodup := h.1.imp (fun {x y} hxy e => by rw [e] at hxy; exact Int32.lt_irrefl hxy)
theorem IsQ.perm {l : List Nat} (h : IsQ R b l) : l.Perm ((List.range (no R)).filter (fun o => bel R o (nI b) 1)) := by
  refine (List.perm_ext_iff_of_nodup h.nd (List.nodup_range.filter _)).2 (fun o => ?_)
  rw [h.2 o, List.mem_filter, List.mem_range]
theorem IsQ.len {l : List Nat} (h : IsQ R b l) : l.length = cOf R (nI b) 1 := by
  rw [h.perm.length_eq]
  unfold cOf
  rw [cn_filter]
theorem IsQ.iAt {l : List Nat} (h : IsQ R b l) {i : Nat} (hi : i < l.length) : idx R l[i] (nI b) = i := by
  have e : idx R l[i] (nI b) = (l.filter (fun q => decide (og R q 8 < og R l[i] 8))).length := by
    unfold idx
    rw [cn_filter, ← List.countP_eq_length_filter, ← List.countP_eq_length_filter, h.perm.countP_eq, List.countP_filter]
    congr 1
    funext q
    rw [Bool.and_comm]
  rw [e, ← List.countP_eq_length_filter]
  have e2 : l = l.take i ++ l.drop i := (List.take_append_drop i l).symm
  have hp := List.pairwise_iff_getElem.1 h.1
  have e3 : ∀ g : Nat → Bool, l.countP g = (l.take i).countP g + (l.drop i).countP g := fun g => by rw [← List.countP_append, List.take_append_drop]
  rw [e3]
  have a1 : (l.take i).countP (fun q => decide (og R q 8 < og R l[i] 8)) = i := by
    have : (l.take i).countP (fun q => decide (og R q 8 < og R l[i] 8)) = (l.take i).length := List.countP_eq_length.2 (fun q hq => by
      obtain ⟨k, hk, rfl⟩ := List.mem_iff_getElem.1 hq
      rw [List.length_take] at hk
      rw [List.getElem_take]
      exact decide_eq_true (hp k i (by omega) hi (by omega)))
    rw [this, List.length_take]; omega
  have a2 : (l.drop i).countP (fun q => decide (og R q 8 < og R l[i] 8)) = 0 := List.countP_eq_zero.2 (fun q hq => by
    obtain ⟨k, hk, rfl⟩ := List.mem_iff_getElem.1 hq
    rw [List.getElem_drop]
    rw [List.length_drop] at hk
    intro hc
    have hc := of_decide_eq_true hc
    by_cases e' : k = 0
    · subst e'; exact Int32.lt_irrefl hc
    · have := hp i (i + k) hi (by omega) (by omega)
      rw [Int32.lt_iff_toInt_lt] at this hc
      omega)
  rw [a1, a2, Nat.add_zero]
/-- what the model finds at a place of the queue -/
theorem IsQ.qv {l : List Nat} (h : IsQ R b l) (hl : l.length < 2 ^ 31) : qd R (nI b) p = if hp : inR p l.length = true then nI (l[p.toNatClampNeg]'(by obtain ⟨j, h1, rfl⟩ := inR_of hl hp; rw [nI_clamp (by omega)]; exact h1)) else -1 := by
  have key : ∀ o, o < no R → bel R o (nI b) 1 = true → ∃ i, ∃ hi : i < l.length, l[i] = o := fun o h1 h2 => List.mem_iff_getElem.1 ((h.2 o).2 ⟨h1, h2⟩)
  unfold qd
  split
  · rename_i hp
    obtain ⟨j, h1, rfl⟩ := inR_of hl hp
    have hm := (h.2 l[j]).1 (List.getElem_mem h1)
    have e : ∀ (hh : (nI j).toNatClampNeg < l.length), l[(nI j).toNatClampNeg] = l[j] := fun hh => by congr 1; exact nI_clamp (by omega)
    rw [e]
    refine ff_some hm.1 (by rw [hm.2, h.iAt h1]; simp) (fun o ho => ?_)
    by_cases hb : bel R o (nI b) 1 = true
    · obtain ⟨i, hi, rfl⟩ := key o (by omega) hb
      rw [h.iAt hi]
      have : i ≠ j := fun e => by subst e; omega
      rw [show decide (nI i = nI j) = false from decide_eq_false (fun c => this (nI_inj (by omega) (by omega) c)), Bool.and_false]
    · rw [Bool.eq_false_iff.2 hb, Bool.false_and]
  · rename_i hp
    refine ff_none (fun o ho => ?_)
    by_cases hb : bel R o (nI b) 1 = true
    · obtain ⟨i, hi, rfl⟩ := key o ho hb
      rw [h.iAt hi]
      have : nI i ≠ p := fun e => by rw [← e] at hp; exact hp (inR_nI hi hl)
      rw [show decide (nI i = p) = false from decide_eq_false this, Bool.and_false]
    · rw [Bool.eq_false_iff.2 hb, Bool.false_and]
theorem cOf_held (R : Nat → Int32) (b : Nat) : held R b = cOf R (nI b) 1 + cOf R (nI b) 2 := by
  unfold held cOf
  refine cn_split _ (fun k _ => ?_)
  unfold bel
  by_cases h1 : og R k 4 = 1
  · rw [h1]; by_cases h2 : og R k 5 = nI b <;> simp [h2]
  · by_cases h2 : og R k 4 = 2 <;> by_cases h3 : og R k 5 = nI b <;> simp [h1, h2, h3]
theorem qlen4 (w : WF T R) (hb : b < nb R) {l : List Nat} (h : IsQ R b l) : l.length ≤ 4 := by
  have := w.2.2.2.2.1 b hb
  rw [cOf_held, ← h.len] at this
  omega
theorem c_queuedAt (w : WF T R) (h : RelC c M R) (hb : b < nb R) (hK : K (qd R (nI b) p) M) : f_X1_queuedAt (c + 21 + 2 * b) p M K := by
  unfold f_X1_queuedAt
  obtain ⟨l, hq, h1, h2⟩ := h.2.2.2.2.1 b hb
  have h4 := qlen4 w hb hq
  rw [hq.qv (by omega)] at hK
  rw [h1]
  refine ⟨fun c0 => ?_, fun c0 => ⟨fun c1 => ?_, fun c1 => ?_⟩⟩
  · rw [dif_neg (by rw [show inR p l.length = false from decide_eq_false (fun c => absurd c.1 (Int32.not_le.2 c0))]; decide)] at hK; exact hK
  · rw [dif_neg (by rw [show inR p l.length = false from decide_eq_false (fun c => absurd c1 (Int32.not_le.2 c.2))]; decide)] at hK; exact hK
  · have hp : inR p l.length = true := decide_eq_true ⟨Int32.not_lt.1 c0, Int32.not_le.1 c1⟩
    rw [dif_pos hp] at hK
    obtain ⟨j, hj, rfl⟩ := inR_of (by omega) hp
    refine cT' (nI_lt (b := 4) (by omega) (by decide)) ⟨vp_in_nI (by omega) (by decide), ?_⟩
    rw [h2 _ (by rw [nI_clamp (by omega)]; exact hj)]
    exact hK
theorem c_cAt (w : WF T R) (h : RelC c M R) (hK : K (nI (cAt R s)) M) : f_X2_countBargesAt c s M K := by
  unfold f_X2_countBargesAt
  have hb5 := w.nb5
  refine fo_loop (fun n a k => f_X2_countBargesAt_L4 c s K n s a (nI k) M) (fun k x => x + bi (free R k s)) 0 (nb R) (fun n => ?_) (fun n a k hk hL => ?_)
  · rw [f_X2_countBargesAt_L4, h.1.2.1, w.1.1.2.1.1]
    exact cT' (nI_le (Nat.le_refl _) (by omega)) (K_of hK (by rw [show (0 : Int32) = nI 0 from rfl, fo_cn, Nat.zero_add]; rfl))
  · rw [f_X2_countBargesAt_L4, h.1.2.1, w.1.1.2.1.1]
    refine cN' (nI_ge hk (by omega)) ⟨vp_in_nI (by omega) (by decide), ?_⟩
    rw [nI_clamp (by omega), (h.2.2.2.1 k hk).1, nI_1]
    refine ⟨fun c0 => ?_, fun c0 => ⟨vp_in_nI (by omega) (by decide), ?_⟩⟩
    · rw [show free R k s = false by simp [free, c0], bi_F, Int32.add_zero] at hL; exact hL
    · refine c_inLock w h hk ?_
      refine bT (fun h1 => ?_) (fun h0 => ?_)
      · rw [show free R k s = false by simp [free, h1], bi_F, Int32.add_zero] at hL; exact hL
      · rw [show free R k s = true by simp [free, h0, c0]] at hL; exact hL
/-- the states of an order -/
theorem WO.st (w : WF T R) (ho : o < no R) : vp_in (og R o 4) 5 := by
  obtain ⟨p, s, h1, h2, h3, h4, -⟩ := w.2.2.1 o ho
  rw [h4]
  exact vp_in_nI h2 (by decide)
def isHeld (R : Nat → Int32) (o : Nat) : Bool := decide (og R o 4 = 1) || decide (og R o 4 = 2)
theorem alive_iff (w : WF T R) (ho : o < no R) : alive R o = (decide (og R o 4 = 0) || isHeld R o) := by
  obtain ⟨p, s, h1, h2, h3, h4, -⟩ := w.2.2.1 o ho
  unfold alive isHeld
  rw [h4]
  rcases (show s = 0 ∨ s = 1 ∨ s = 2 ∨ s = 3 ∨ s = 4 by omega) with rfl | rfl | rfl | rfl | rfl <;> decide +kernel
theorem c_isHeld (w : WF T R) (h : RelC c M R) (ho : o < no R) (hK : K (bi (isHeld R o)) M) : f_X6_isHeld (c + 31 + o) M K := by
  unfold f_X6_isHeld
  rw [(h.2.2.2.2.2 o ho).2.2.2.2.2.2.1]
  refine ⟨WO.st w ho, fun c1 => ?_, fun c1 => ⟨WO.st w ho, rt1 (K_of hK (by simp [isHeld, c1]))⟩⟩
  exact K_of hK (by simp [isHeld, c1, bi])
theorem c_alive (w : WF T R) (h : RelC c M R) (ho : o < no R) (hK : K (bi (alive R o)) M) : f_X6_canStillBeEaten (c + 31 + o) M K := by
  unfold f_X6_canStillBeEaten
  rw [alive_iff w ho] at hK
  rw [(h.2.2.2.2.2 o ho).2.2.2.2.2.2.1]
  refine ⟨WO.st w ho, fun c1 => ?_, fun c1 => ?_⟩
  · exact K_of hK (by simp [c1, bi])
  · refine c_isHeld w h ho ?_
    exact bF (fun h1 => K_of hK (by simp [h1, bi])) (fun h0 => K_of hK (by simp [h0, c1, bi]))
def cOrd (R : Nat → Int32) (s : Int32) : Nat := cn (fun o => decide (og R o 0 = s) && alive R o) (no R)
theorem c_cOrd (w : WF T R) (h : RelC c M R) (hK : K (nI (cOrd R s)) M) : f_X2_countOrdersAt c s M K := by
  unfold f_X2_countOrdersAt
  have hb5 := w.no30
  refine fo_loop (fun n a k => f_X2_countOrdersAt_L4 c s K n s a (nI k) M) (fun k x => x + bi (decide (og R k 0 = s) && alive R k)) 0 (no R) (fun n => ?_) (fun n a k hk hL => ?_)
  · rw [f_X2_countOrdersAt_L4, h.1.2.2.1, w.1.1.2.2.1]
    exact cT' (nI_le (Nat.le_refl _) (by omega)) (K_of hK (by rw [show (0 : Int32) = nI 0 from rfl, fo_cn, Nat.zero_add]; rfl))
  · rw [f_X2_countOrdersAt_L4, h.1.2.2.1, w.1.1.2.2.1]
    refine cN' (nI_ge hk (by omega)) ⟨vp_in_nI (by omega) (by decide), ?_⟩
    rw [nI_clamp (by omega), (h.2.2.2.2.2 k hk).1, nI_1]
    refine ⟨fun c0 => ?_, fun c0 => ⟨vp_in_nI (by omega) (by decide), ?_⟩⟩
    · rw [show (decide (og R k 0 = s) && alive R k) = false by simp [c0], bi_F, Int32.add_zero] at hL; exact hL
    · refine c_alive w h hk ?_
      refine bF (fun h1 => ?_) (fun h0 => ?_)
      · rw [show (decide (og R k 0 = s) && alive R k) = true by simp [h1, c0]] at hL; exact hL
      · rw [show (decide (og R k 0 = s) && alive R k) = false by simp [h0], bi_F, Int32.add_zero] at hL; exact hL
theorem c_held (w : WF T R) (h : RelC c M R) (hK : K (nI (held R b)) M) : f_X2_countHeldBy c (nI b) M K := by
  unfold f_X2_countHeldBy
  have hb5 := w.no30
  have e : ∀ k, (bel R k (nI b) 1 || bel R k (nI b) 2) = (decide (og R k 5 = nI b) && isHeld R k) := fun k => by
    unfold bel isHeld
    cases decide (og R k 5 = nI b) <;> simp
  refine fo_loop (fun n a k => f_X2_countHeldBy_L4 c (nI b) K n (nI b) a (nI k) M) (fun k x => x + bi (bel R k (nI b) 1 || bel R k (nI b) 2)) 0 (no R) (fun n => ?_) (fun n a k hk hL => ?_)
  · rw [f_X2_countHeldBy_L4, h.1.2.2.1, w.1.1.2.2.1]
    exact cT' (nI_le (Nat.le_refl _) (by omega)) (K_of hK (by rw [show (0 : Int32) = nI 0 from rfl, fo_cn, Nat.zero_add]; rfl))
  · rw [f_X2_countHeldBy_L4, h.1.2.2.1, w.1.1.2.2.1]
    refine cN' (nI_ge hk (by omega)) ⟨vp_in_nI (by omega) (by decide), ?_⟩
    rw [nI_clamp (by omega), (h.2.2.2.2.2 k hk).2.2.2.2.2.2.2, nI_1]
    rw [e] at hL
    refine ⟨fun c0 => ?_, fun c0 => ⟨vp_in_nI (by omega) (by decide), ?_⟩⟩
    · rw [show (decide (og R k 5 = nI b) && isHeld R k) = false by simp [c0], bi_F, Int32.add_zero] at hL; exact hL
    · refine c_isHeld w h hk ?_
      refine bF (fun h1 => ?_) (fun h0 => ?_)
      · rw [show (decide (og R k 5 = nI b) && isHeld R k) = true by simp [h1, c0]] at hL; exact hL
      · rw [show (decide (og R k 5 = nI b) && isHeld R k) = false by simp [h0], bi_F, Int32.add_zero] at hL; exact hL
end CREAD
