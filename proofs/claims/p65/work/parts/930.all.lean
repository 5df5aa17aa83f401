/-! p65: what the law keeps of the object: a row of numbers, a function of the canal's row -/
def hd5 (R : Nat → Int32) (i : Nat) : Int32 := if i = 0 then R 0 else if i = 1 then R 3 else if i = 2 then R 4 else if i = 3 then R 5 else R 6
def bfd (R : Nat → Int32) (b j : Nat) : Int32 := if j = 0 then bg R b 0 else if j = 1 then bg R b 1 else if j = 2 then bg R b 6 else if j = 3 then bg R b 3 else if j = 4 then bg R b 4 else if j = 5 then bg R b 5 else qd R (nI b) 0
def ofd (R : Nat → Int32) (o j : Nat) : Int32 := if j = 0 then og R o 7 else if j = 1 then og R o 5 else if j = 2 then og R o 3 else if og R o 4 = 0 then 0 else if og R o 4 = 2 then 1 else if og R o 4 = 3 then 2 else 3
def aIt (R : Nat → Int32) (i : Nat) : Int32 := if i < 5 then hd5 R i else if i < 5 + 7 * nb R then bfd R ((i - 5) / 7) ((i - 5) % 7) else if i < 5 + 7 * nb R + 4 * no R then ofd R ((i - 5 - 7 * nb R) / 4) ((i - 5 - 7 * nb R) % 4) else R (40 + (i - 5 - 7 * nb R - 4 * no R))
def aLen (R : Nat → Int32) : Nat := 5 + 7 * nb R + 4 * no R + np R
/-- the object stands, the law's cells are L's but for a row under way, of which x places are filled -/
def AI (L : TM) (T : Nat) (R : Nat → Int32) (h : Nat) (hr : Nat → Nat → Int32) (sb : Bool) (S : Nat → Int32) (a4 x : Nat) (M : TM) : Prop := PV M T R h hr sb S M ∧ (∀ i, 699 ≤ i → i ≠ a4 → M i = L i) ∧ ∀ i, i < x → M a4 i = aIt R i
section ALL
variable {M M1 M' L L' : TM} {T : Nat} {KI : Int32 → TM → Prop} {KV : TM → Prop} {p q u v y : Int32} {R S : Nat → Int32} {b h j k o t x a4 n4 : Nat} {hr : Nat → Nat → Int32} {sb : Bool}
theorem aIt_b (hb : b < nb R) (hj : j < 7) : aIt R (5 + 7 * b + j) = bfd R b j := by
  unfold aIt
  rw [if_neg (by omega), if_pos (by omega), show (5 + 7 * b + j - 5) / 7 = b by omega, show (5 + 7 * b + j - 5) % 7 = j by omega]
theorem aIt_o (ho : o < no R) (hj : j < 4) : aIt R (5 + 7 * nb R + 4 * o + j) = ofd R o j := by
  unfold aIt
  rw [if_neg (by omega), if_neg (by omega), if_pos (by omega), show (5 + 7 * nb R + 4 * o + j - 5 - 7 * nb R) / 4 = o by omega, show (5 + 7 * nb R + 4 * o + j - 5 - 7 * nb R) % 4 = j by omega]
theorem aIt_p (t : Nat) : aIt R (5 + 7 * nb R + 4 * no R + t) = R (40 + t) := by
  unfold aIt
  rw [if_neg (by omega), if_neg (by omega), if_neg (by omega), show 5 + 7 * nb R + 4 * no R + t - 5 - 7 * nb R - 4 * no R = t by omega]
theorem PV.self (g : PV L T R h hr sb S M) : PV M T R h hr sb S M := ⟨g.1, fun _ _ => rfl⟩
theorem AI.put (g : AI L T R h hr sb S a4 x M) (ha : 699 ≤ a4) (hn : n4 < 2 ^ 31) (e : y = nI x) (hx : x < n4) (hv : v = aIt R x) (hK : ∀ M', AI L T R h hr sb S a4 (x + 1) M' → KV M') : vp_in y n4 ∧ ∀ M', M' = u2 M a4 y.toNatClampNeg v → KV M' := by
  subst e
  refine ⟨vp_in_nI hx hn, fun M' e => hK M' ?_⟩
  rw [nI_clamp (by omega)] at e
  subst e
  refine ⟨g.1.fr (fun i hi => u2_n (by omega)) (fun _ _ => rfl), fun i h1 h2 => (u2_n h2).trans (g.2.1 i h1 h2), fun i hi => ?_⟩
  by_cases c : i = x
  · subst c
    rw [u2_s]
    exact hv
  · rw [u2_f c]
    exact g.2.2 i (by omega)
theorem a_313 (w : WF T R) (ha : 699 ≤ a4) (hn : n4 = aLen R) (hK : ∀ M', AI L T R h hr sb S a4 (aLen R) M' → KV M') : ∀ n k M, k + n = np R → AI L T R h hr sb S a4 (5 + 7 * nb R + 4 * no R + k) M → f_L_all_L313 a4 n4 KV (n + 1) (R 1) (nI (5 + 7 * nb R + 4 * no R + k)) (nI k) M := by
  have n16 := w.np16
  have n5 := w.nb5
  have n30 := w.no30
  have e1 : R 1 = nI (np R) := w.1.1.1.1
  have hn' : n4 = 5 + 7 * nb R + 4 * no R + np R := hn
  intro n
  induction n with
  | zero =>
    intro k M hk g
    have : k = np R := by omega
    subst this
    unfold f_L_all_L313
    exact cT' (by rw [e1]; exact nI_le (Nat.le_refl _) (by omega)) (hK M g)
  | succ n ih =>
    intro k M hk g
    unfold f_L_all_L313
    refine cN' (by rw [e1]; exact nI_ge (by omega) (by omega)) ?_
    refine t_usedPairs g.1 rfl (by omega) ?_
    refine g.put ha (by omega) rfl (by omega) (aIt_p k).symm (fun M1 g1 => ?_)
    rw [nI_1, nI_1]
    exact ih (k + 1) M1 (by omega) g1
theorem a_208 (w : WF T R) (ha : 699 ≤ a4) (hn : n4 = aLen R) (hK : ∀ M', AI L T R h hr sb S a4 (aLen R) M' → KV M') : ∀ n k M, k + n = no R → AI L T R h hr sb S a4 (5 + 7 * nb R + 4 * k) M → f_L_all_L208 a4 n4 KV (n + 1) (R 3) (R 1) (nI (5 + 7 * nb R + 4 * k)) (nI k) M := by
  have n16 := w.np16
  have n5 := w.nb5
  have n30 := w.no30
  have e3 : R 3 = nI (no R) := w.1.1.2.2.1
  have hn' : n4 = 5 + 7 * nb R + 4 * no R + np R := hn
  intro n
  induction n with
  | zero =>
    intro k M hk g
    have : k = no R := by omega
    subst this
    unfold f_L_all_L208
    refine cT' (by rw [e3]; exact nI_le (Nat.le_refl _) (by omega)) ?_
    exact ⟨_, a_313 w ha hn hK (np R) 0 M (by omega) g⟩
  | succ n ih =>
    intro k M hk g
    have hk' : k < no R := by omega
    unfold f_L_all_L208
    refine cN' (by rw [e3]; exact nI_ge (by omega) (by omega)) ?_
    refine t_pullsLeft g.1 rfl hk' ?_
    refine g.put ha (by omega) rfl (by omega) (aIt_o (j := 0) hk' (by decide)).symm (fun M1 g1 => ?_)
    rw [nI_1]
    refine t_bargeOf g1.1 rfl hk' ?_
    refine g1.put ha (by omega) rfl (by omega) (aIt_o (j := 1) hk' (by decide)).symm (fun M2 g2 => ?_)
    rw [nI_1]
    refine t_deadline g2.1 rfl hk' ?_
    refine g2.put ha (by omega) rfl (by omega) (aIt_o (j := 2) hk' (by decide)).symm (fun M3 g3 => ?_)
    rw [nI_1]
    have e : ∀ z, ofd R k 3 = z → z = aIt R (5 + 7 * nb R + 4 * k + 1 + 1 + 1) := fun z e => by rw [← e]; exact (aIt_o (j := 3) hk' (by decide)).symm
    have fin : ∀ M4, AI L T R h hr sb S a4 (5 + 7 * nb R + 4 * k + 1 + 1 + 1 + 1) M4 → f_L_all_L208 a4 n4 KV (n + 1) (R 3) (R 1) (nI (5 + 7 * nb R + 4 * k + 1 + 1 + 1) + 1) (nI k + 1) M4 := fun M4 g4 => by
      rw [nI_1, nI_1]
      exact ih (k + 1) M4 (by omega) g4
    refine t_isOpen g3.1 rfl hk' ?_
    refine pF (fun c0 => ?_) (fun c0 => ?_)
    · exact g3.put ha (by omega) rfl (by omega) (e 0 (by show (if og R k 4 = 0 then (0 : Int32) else _) = 0; rw [if_pos c0])) fin
    · refine t_isReady g3.1 rfl hk' ?_
      refine pF (fun c2 => ?_) (fun c2 => ?_)
      · exact g3.put ha (by omega) rfl (by omega) (e 1 (by show (if og R k 4 = 0 then (0 : Int32) else if og R k 4 = 2 then 1 else _) = 1; rw [if_neg c0, if_pos c2])) fin
      · refine t_isEaten g3.1 rfl hk' ?_
        refine pF (fun c3 => ?_) (fun c3 => ?_)
        · exact g3.put ha (by omega) rfl (by omega) (e 2 (by show (if og R k 4 = 0 then (0 : Int32) else if og R k 4 = 2 then 1 else if og R k 4 = 3 then 2 else 3) = 2; rw [if_neg c0, if_neg c2, if_pos c3])) fin
        · exact g3.put ha (by omega) rfl (by omega) (e 3 (by show (if og R k 4 = 0 then (0 : Int32) else if og R k 4 = 2 then 1 else if og R k 4 = 3 then 2 else 3) = 3; rw [if_neg c0, if_neg c2, if_neg c3])) fin
theorem a_94 (w : WF T R) (ha : 699 ≤ a4) (hn : n4 = aLen R) (hK : ∀ M', AI L T R h hr sb S a4 (aLen R) M' → KV M') : ∀ n k M, k + n = nb R → AI L T R h hr sb S a4 (5 + 7 * k) M → f_L_all_L94 a4 n4 KV (n + 1) (R 2) (R 3) (R 1) (nI (5 + 7 * k)) (nI k) M := by
  have n16 := w.np16
  have n5 := w.nb5
  have n30 := w.no30
  have e2 : R 2 = nI (nb R) := w.1.1.2.1.1
  have hn' : n4 = 5 + 7 * nb R + 4 * no R + np R := hn
  intro n
  induction n with
  | zero =>
    intro k M hk g
    have : k = nb R := by omega
    subst this
    unfold f_L_all_L94
    refine cT' (by rw [e2]; exact nI_le (Nat.le_refl _) (by omega)) ?_
    exact ⟨_, a_208 w ha hn hK (no R) 0 M (by omega) g⟩
  | succ n ih =>
    intro k M hk g
    have hk' : k < nb R := by omega
    unfold f_L_all_L94
    refine cN' (by rw [e2]; exact nI_ge (by omega) (by omega)) ?_
    refine t_placeOf g.1 rfl hk' ?_
    refine g.put ha (by omega) rfl (by omega) (aIt_b (j := 0) hk' (by decide)).symm (fun M1 g1 => ?_)
    rw [nI_1]
    refine t_targetOf g1.1 rfl hk' ?_
    refine g1.put ha (by omega) rfl (by omega) (aIt_b (j := 1) hk' (by decide)).symm (fun M2 g2 => ?_)
    rw [nI_1]
    refine t_timeInLock g2.1 rfl hk' ?_
    refine g2.put ha (by omega) rfl (by omega) (aIt_b (j := 2) hk' (by decide)).symm (fun M3 g3 => ?_)
    rw [nI_1]
    refine t_flour g3.1 rfl hk' ?_
    refine g3.put ha (by omega) rfl (by omega) (aIt_b (j := 3) hk' (by decide)).symm (fun M4 g4 => ?_)
    rw [nI_1]
    refine t_cleanPairs g4.1 rfl hk' ?_
    refine g4.put ha (by omega) rfl (by omega) (aIt_b (j := 4) hk' (by decide)).symm (fun M5 g5 => ?_)
    rw [nI_1]
    refine t_dirtyPairs g5.1 rfl hk' ?_
    refine g5.put ha (by omega) rfl (by omega) (aIt_b (j := 5) hk' (by decide)).symm (fun M6 g6 => ?_)
    rw [nI_1]
    refine t_queuedOrder g6.1 rfl hk' ?_
    refine g6.put ha (by omega) rfl (by omega) (aIt_b (j := 6) hk' (by decide)).symm (fun M7 g7 => ?_)
    rw [nI_1, nI_1]
    exact ih (k + 1) M7 (by omega) g7
theorem a_31 (w : WF T R) (ha : 699 ≤ a4) (hn : n4 = aLen R) (g : AI L T R h hr sb S a4 0 M) (hK : ∀ M', AI L T R h hr sb S a4 (aLen R) M' → KV M') : f_L_all_L31 a4 n4 KV (R 2) (R 3) (R 1) M := by
  have n16 := w.np16
  have n5 := w.nb5
  have n30 := w.no30
  have hn' : n4 = 5 + 7 * nb R + 4 * no R + np R := hn
  unfold f_L_all_L31
  refine t_minute g.1 ?_
  refine g.put ha (by omega) (x := 0) rfl (by omega) rfl (fun M1 g1 => ?_)
  refine g1.put ha (by omega) (x := 1) rfl (by omega) rfl (fun M2 g2 => ?_)
  refine t_coins g2.1 ?_
  refine g2.put ha (by omega) (x := 2) rfl (by omega) rfl (fun M3 g3 => ?_)
  refine t_eatenBowls g3.1 ?_
  refine g3.put ha (by omega) (x := 3) rfl (by omega) rfl (fun M4 g4 => ?_)
  refine t_expiredOrders g4.1 ?_
  refine g4.put ha (by omega) (x := 4) rfl (by omega) rfl (fun M5 g5 => ?_)
  exact ⟨_, a_94 w ha hn hK (nb R) 0 M5 (by omega) g5⟩
theorem r_alike {a0 n0 a1 n1 : Nat} {K : Int32 → TM → Prop} (e : n0 = n1) (hn : n0 < 2 ^ 31) (hc : ∀ i, i < n0 → M a0 i = M a1 i) (hK : K 1 M) : f_L_alike a0 n0 a1 n1 M K := by
  subst e
  unfold f_L_alike
  refine cT' rfl ?_
  have key : ∀ n k, k + n = n0 → f_L_alike_L11 a0 n0 a1 n0 K (n + 1) (nI k) M := by
    intro n
    induction n with
    | zero =>
      intro k hk
      unfold f_L_alike_L11
      exact cT' (nI_le (by omega) (by omega)) hK
    | succ n ih =>
      intro k hk
      unfold f_L_alike_L11
      refine cN' (nI_ge (by omega) hn) ⟨vp_in_nI (by omega) hn, vp_in_nI (by omega) hn, ?_⟩
      refine cT' (by rw [nI_clamp (by omega)]; exact hc k (by omega)) ?_
      rw [nI_1]
      exact ih (k + 1) (by omega)
  exact ⟨_, key n0 0 (by omega)⟩
end ALL
