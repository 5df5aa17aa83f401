/-! p65: counts -/
section COUNT
variable {T P m i k b d o t f x j a n : Nat} {R R' : Nat → Int32} {p q u v : Int32}
theorem sN_app (f : Nat → Nat) (m : Nat) : ∀ n, sN f (m + n) = sN f m + sN (fun k => f (m + k)) n := by
  intro n
  induction n with
  | zero => rfl
  | succ n ih => show sN f (m + n) + f (m + n) = sN f m + (sN (fun k => f (m + k)) n + f (m + n)); rw [ih]; omega
theorem sN_ind {i0 : Nat} {m : Nat} (h : i0 < m) {g : Nat → Bool} (hg : ∀ i, i < m → g i = decide (i = i0)) : sN (fun i => if g i then 1 else 0) m = 1 := by
  have h1 := sN_one (f := fun _ => 0) (g := fun i => if g i then 1 else 0) (i := i0) m h (fun k hk hn => by
    show (if g k = true then 1 else 0) = 0
    rw [hg k hk, decide_eq_false hn]
    rfl)
  rw [sN_zero m (fun _ _ => rfl), show (if g i0 = true then 1 else 0) = 1 by rw [hg i0 h, decide_eq_true rfl]; rfl] at h1
  omega
/-- counted twice -/
theorem dc {q : Nat → Nat → Bool} {p : Nat → Bool} {m n : Nat} (h1 : ∀ j, j < n → p j = true → ∃ i0, i0 < m ∧ ∀ i, i < m → q i j = decide (i = i0)) (h0 : ∀ j, j < n → p j = false → ∀ i, i < m → q i j = false) : sN (fun i => cn (q i) n) m = cn p n := by
  rw [sN_congr m (fun i _ => cn_sN (q i) n), sN_swap n m, cn_sN]
  refine sN_congr n (fun j hj => ?_)
  cases hp : p j with
  | true =>
    obtain ⟨i0, a1, a2⟩ := h1 j hj hp
    exact sN_ind a1 a2
  | false =>
    refine sN_zero m (fun i hi => ?_)
    rw [h0 j hj hp i hi]
    rfl
theorem cn_all : ∀ n, cn (fun _ => true) n = n := by
  intro n
  induction n with
  | zero => rfl
  | succ n ih => unfold cn; rw [ih]; rfl
theorem cn_uniq {p : Nat → Bool} {n k : Nat} (hk : k < n) (hp : p k = true) (hu : ∀ j, j < n → p j = true → j = k) : cn p n = 1 := by
  rw [cn_sN]
  refine sN_ind hk (fun i hi => ?_)
  by_cases e : i = k
  · rw [e, hp, decide_eq_true rfl]
  · rw [decide_eq_false e]
    cases h : p i with
    | false => rfl
    | true => exact absurd (hu i hi h) e
/-- barges at places, and those in locks -/
theorem sum_at (w : WF T R) : sN (fun s => cAt R (nI s)) (np R) = cn (fun b => !inL R b) (nb R) := by
  have n16 := w.np16
  unfold cAt
  refine dc (q := fun s b => free R b (nI s)) (p := fun b => !inL R b) (fun b hb hp => ?_) (fun b hb hp i hi => ?_)
  · have h1 := (w.2.1 b hb).ePl
    refine ⟨pl R b, h1.2, fun i hi => ?_⟩
    show (!inL R b && decide (bg R b 0 = nI i)) = decide (i = pl R b)
    rw [show (!inL R b) = true from hp, Bool.true_and, h1.1]
    exact decide_eq_decide.2 ⟨fun e => (nI_inj (by omega) (by omega) e).symm, fun e => by rw [e]⟩
  · show (!inL R b && decide (bg R b 0 = nI i)) = false
    rw [show (!inL R b) = false from hp, Bool.false_and]
theorem sum_lock (w : WF T R) : sN (fun s => if who R (nI s) = -1 then 0 else 1) (np R - 1) = cn (fun b => inL R b) (nb R) := by
  have n16 := w.np16
  have n5 := w.nb5
  have key := dc (q := fun s b => inL R b && decide (ahead R b = nI s)) (p := fun b => inL R b) (m := np R - 1) (n := nb R) (fun b hb hp => ?_) (fun b hb hp i hi => ?_)
  · rw [← key]
    refine sN_congr _ (fun s hs => ?_)
    show (if who R (nI s) = -1 then 0 else 1) = cn (fun b => inL R b && decide (ahead R b = nI s)) (nb R)
    unfold who
    rcases ff_cases (fun b => inL R b && decide (ahead R b = nI s)) (nb R) with ⟨h1, h2⟩ | ⟨k, h1, h2, h3, h4⟩
    · rw [h1, if_pos rfl, cn_zero h2]
    · rw [h2, if_neg (nI_m1 (by omega))]
      refine (cn_uniq h1 h3 (fun j hj hp => ?_)).symm
      have hp : (inL R j && decide (ahead R j = nI s)) = true := hp
      have h3 : (inL R k && decide (ahead R k = nI s)) = true := h3
      rw [Bool.and_eq_true, decide_eq_true_eq] at hp h3
      exact w.2.2.2.1 j k hj h1 hp.1 h3.1 (by rw [hp.2, h3.2])
  · have wb := w.2.1 b hb
    have hp : inL R b = true := hp
    have hv : vl R b ≠ 0 := by
      rw [inL_vl wb] at hp
      exact of_decide_eq_true hp
    obtain ⟨aj, j1, -⟩ := ahead_jj wb n16 (wb.eVl.2.2 hv)
    refine ⟨jj R b, by omega, fun i hi => ?_⟩
    show (inL R b && decide (ahead R b = nI i)) = decide (i = jj R b)
    rw [hp, Bool.true_and, aj]
    exact decide_eq_decide.2 ⟨fun e => (nI_inj (by omega) (by omega) e).symm, fun e => by rw [e]⟩
  · show (inL R b && decide (ahead R b = nI i)) = false
    rw [show inL R b = false from hp, Bool.false_and]
theorem sum_bar (w : WF T R) : sN (fun s => cAt R (nI s)) (np R) + sN (fun s => if who R (nI s) = -1 then 0 else 1) (np R - 1) = nb R := by
  rw [sum_at w, sum_lock w, ← cn_split (p := fun _ => true) (nb R) (fun k _ => ?_), cn_all]
  cases inL R k <;> rfl
/-- orders: by state, by barge, by place -/
theorem st5 (w : WF T R) (ho : o < no R) : og R o 4 = 0 ∨ og R o 4 = 1 ∨ og R o 4 = 2 ∨ og R o 4 = 3 ∨ og R o 4 = 4 := by
  obtain ⟨p, s, h1, h2, h3, h4, -⟩ := w.2.2.1 o ho
  rcases (show s = 0 ∨ s = 1 ∨ s = 2 ∨ s = 3 ∨ s = 4 by omega) with rfl | rfl | rfl | rfl | rfl
  · exact Or.inl h4
  · exact Or.inr (Or.inl h4)
  · exact Or.inr (Or.inr (Or.inl h4))
  · exact Or.inr (Or.inr (Or.inr (Or.inl h4)))
  · exact Or.inr (Or.inr (Or.inr (Or.inr h4)))
theorem own12 (w : WF T R) (ho : o < no R) (h : og R o 4 = 1 ∨ og R o 4 = 2) : ∃ b, b < nb R ∧ og R o 5 = nI b := by
  obtain ⟨p, s, h1, h2, h3, h4, h5, h6, -⟩ := w.2.2.1 o ho
  refine h6 ?_
  rw [h4] at h
  rcases h with h | h
  · exact Or.inl (nI_inj (a := s) (b := 1) (by omega) (by decide) h)
  · exact Or.inr (nI_inj (a := s) (b := 2) (by omega) (by decide) h)
theorem own_no (w : WF T R) (ho : o < no R) (h1 : ¬ og R o 4 = 1) (h2 : ¬ og R o 4 = 2) : og R o 5 = -1 := by
  obtain ⟨p, s, a1, a2, a3, a4, a5, a6, a7, -⟩ := w.2.2.1 o ho
  refine a7 (fun e => ?_)
  rcases e with rfl | rfl
  · exact h1 a4
  · exact h2 a4
theorem sum_of (w : WF T R) (hs : p = 1 ∨ p = 2) : sN (fun k => cOf R (nI k) p) (nb R) = cIn R p := by
  have n5 := w.nb5
  unfold cOf cIn
  refine dc (q := fun k o => bel R o (nI k) p) (p := fun o => decide (og R o 4 = p)) (fun o ho hp => ?_) (fun o ho hp i hi => ?_)
  · have hp := of_decide_eq_true hp
    obtain ⟨b, hb, e5⟩ := own12 w ho (by rw [hp]; exact hs)
    refine ⟨b, hb, fun i hi => ?_⟩
    unfold bel
    rw [decide_eq_true hp, Bool.true_and, e5]
    exact decide_eq_decide.2 ⟨fun e => (nI_inj (by omega) (by omega) e).symm, fun e => by rw [e]⟩
  · have hp := of_decide_eq_false hp
    show bel R o (nI i) p = false
    unfold bel
    rw [decide_eq_false hp, Bool.false_and]
theorem cn_alive (w : WF T R) : cn (fun o => alive R o) (no R) = cIn R 0 + cIn R 1 + cIn R 2 := by
  have h1 := cn_split (p := fun o => alive R o) (q := fun o => decide (og R o 4 = 0)) (r := fun o => decide (og R o 4 = 1) || decide (og R o 4 = 2)) (no R) (fun o ho => by
    unfold alive
    rcases st5 w ho with e | e | e | e | e <;> rw [e] <;> rfl)
  have h2 := cn_split (p := fun o => decide (og R o 4 = 1) || decide (og R o 4 = 2)) (q := fun o => decide (og R o 4 = 1)) (r := fun o => decide (og R o 4 = 2)) (no R) (fun o ho => by
    rcases st5 w ho with e | e | e | e | e <;> rw [e] <;> rfl)
  unfold cIn
  omega
theorem sum_ord (w : WF T R) : sN (fun s => cOrd R (nI s)) (np R) = cIn R 0 + cIn R 1 + cIn R 2 := by
  have n16 := w.np16
  rw [← cn_alive w]
  unfold cOrd
  refine dc (q := fun s o => decide (og R o 0 = nI s) && alive R o) (p := fun o => alive R o) (fun o ho hp => ?_) (fun o ho hp i hi => ?_)
  · have h1 := (w.2.2.1 o ho).ePl
    refine ⟨fop R o, h1.2, fun i hi => ?_⟩
    show (decide (og R o 0 = nI i) && alive R o) = decide (i = fop R o)
    rw [show alive R o = true from hp, Bool.and_true, h1.1]
    exact decide_eq_decide.2 ⟨fun e => (nI_inj (by omega) (by omega) e).symm, fun e => by rw [e]⟩
  · show (decide (og R o 0 = nI i) && alive R o) = false
    rw [show alive R o = false from hp, Bool.and_false]
theorem sum_st (w : WF T R) : cIn R 0 + cIn R 1 + cIn R 2 + cIn R 3 + cIn R 4 = no R := by
  rw [← cn_alive w]
  have h1 := cn_split (p := fun o => true) (q := fun o => alive R o) (r := fun o => decide (og R o 4 = 3) || decide (og R o 4 = 4)) (no R) (fun o ho => by
    unfold alive
    rcases st5 w ho with e | e | e | e | e <;> rw [e] <;> rfl)
  have h2 := cn_split (p := fun o => decide (og R o 4 = 3) || decide (og R o 4 = 4)) (q := fun o => decide (og R o 4 = 3)) (r := fun o => decide (og R o 4 = 4)) (no R) (fun o ho => by
    rcases st5 w ho with e | e | e | e | e <;> rw [e] <;> rfl)
  rw [cn_all] at h1
  unfold cIn
  omega
theorem cIn_le (R : Nat → Int32) (s : Int32) : cIn R s ≤ no R := cn_le _ _
/-- what the queue needs -/
theorem sN_list (f : Nat → Nat) : ∀ l : List Nat, sN (fun j => f (l.getD j 0)) l.length = (l.map f).sum := by
  intro l
  induction l with
  | nil => rfl
  | cons a l ih =>
    show sN (fun j => f ((a :: l).getD j 0)) (l.length + 1) = _
    rw [sN_head, List.map_cons, List.sum_cons, ← ih]
    rfl
theorem sum_filter (p : Nat → Bool) (f : Nat → Nat) : ∀ n, (((List.range n).filter p).map f).sum = sN (fun o => if p o then f o else 0) n := by
  intro n
  induction n with
  | zero => rfl
  | succ n ih =>
    rw [List.range_succ, List.filter_append, List.map_append, List.sum_append, ih]
    show _ = sN (fun o => if p o then f o else 0) n + (if p n then f n else 0)
    cases h : p n <;> simp [h]
theorem need_q {l : List Nat} (hq : IsQ R b l) : sN (fun j => bw R (l.getD j 0)) l.length = sN (fun o => if bel R o (nI b) 1 then bw R o else 0) (no R) := by
  rw [sN_list (bw R) l, ← sum_filter, (hq.perm.map (bw R)).sum_nat]
theorem sN_mono {f g : Nat → Nat} : ∀ n, (∀ k, k < n → f k ≤ g k) → sN f n ≤ sN g n := by
  intro n
  induction n with
  | zero => intro _; exact Nat.le_refl _
  | succ n ih => intro h; have := ih (fun k hk => h k (by omega)); have := h n (by omega); show sN f n + f n ≤ sN g n + g n; omega
def fN (R : Nat → Int32) (b : Nat) : Nat := sN (fun o => if bel R o (nI b) 1 && decide (og R o 6 = 0) then bw R o else 0) (no R)
theorem bw_w (g : GO m R) (ho : o < no R) : og R o 1 = nI (bw R o) ∧ 1 ≤ bw R o ∧ bw R o ≤ 4 := by
  obtain ⟨b', u', l, d', a1, a2, a3, a4, a5, -⟩ := g.1 o ho
  have : bw R o = b' := by unfold bw; rw [a5, nI_clamp (by omega)]
  rw [this]
  exact ⟨a5, a1⟩
theorem sFl_fN (g : GO m R) : sFl R (nI b) = nI (fN R b) := by
  unfold sFl fN
  have := fo_sN (f := fun o => if bel R o (nI b) 1 && decide (og R o 6 = 0) then og R o 1 else 0) (g := fun o => if bel R o (nI b) 1 && decide (og R o 6 = 0) then bw R o else 0) (no R) (fun o ho => by
    show (if (bel R o (nI b) 1 && decide (og R o 6 = 0)) = true then og R o 1 else 0) = nI (if (bel R o (nI b) 1 && decide (og R o 6 = 0)) = true then bw R o else 0)
    split
    · exact (bw_w g ho).1
    · rfl) 0
  rw [Nat.zero_add] at this
  exact this
theorem fN_le {l : List Nat} (hq : IsQ R b l) : fN R b ≤ sN (fun j => bw R (l.getD j 0)) l.length := by
  rw [need_q hq]
  unfold fN
  refine sN_mono _ (fun o ho => ?_)
  show (if (bel R o (nI b) 1 && decide (og R o 6 = 0)) = true then bw R o else 0) ≤ (if bel R o (nI b) 1 = true then bw R o else 0)
  by_cases h1 : bel R o (nI b) 1 = true
  · rw [if_pos h1]; split
    · exact Nat.le_refl _
    · exact Nat.zero_le _
  · rw [if_neg (by rw [Bool.eq_false_iff.2 h1, Bool.false_and]; decide)]; exact Nat.zero_le _
/-- journeys -/
theorem jt_sym (a t : Nat) : jt R a t = jt R t a := by unfold jt; rw [Nat.max_comm, Nat.min_comm]
theorem jt_add (h1 : a ≤ t) (h2 : t ≤ k) : jt R a t + jt R t k = jt R a k := by
  unfold jt
  rw [show max a t - min a t = t - a by omega, show max t k - min t k = k - t by omega, show max a k - min a k = (t - a) + (k - t) by omega, show min a t = a by omega, show min t k = t by omega, show min a k = a by omega, sN_app]
  congr 1
  exact sN_congr _ (fun j _ => by rw [show a + (t - a + j) = t + j by omega])
/-- the states of an order while minutes pass -/
theorem st_pmR (w : WF T R) (ho : o < no R) (Z : Int32 → Prop) (z1 : ¬ Z 1) (z2 : ¬ Z 2) (z0 : Z 0 → Z 4) (h : Z (og R o 4)) : Z (og (pmR R) o 4) := by
  have n5 := w.nb5
  have n30 := w.no30
  obtain ⟨R1, R2, R3, h1, h2, h3, h4, w1, w2, w3, -⟩ := min_st w
  have q1 : R1 3 = R 3 ∧ og R1 o 4 = og R o 4 := by
    rw [h1]
    have := fo_inv (f := fun b a => stM a b) (n := nb R) (P := fun (a : Nat → Int32) => a 2 = R 2 ∧ a 3 = R 3 ∧ og a o 4 = og R o 4) (a := R) ⟨rfl, rfl, rfl⟩ (fun k hk a ha => by
      have : ∀ i, (i < 72 ∨ 107 ≤ i) → stM a k i = a i := fun i hi => stM_i hi (by omega)
      exact ⟨(this 2 (by omega)).trans ha.1, (this 3 (by omega)).trans ha.2.1, (this _ (by omega)).trans ha.2.2⟩)
    exact this.2
  have ho1 : o < no R1 := by unfold no at ho ⊢; rw [q1.1]; exact ho
  have q2 : R2 3 = R1 3 ∧ Z (og R2 o 4) := by
    rw [h2]
    refine (fo_inv (P := fun (a : Nat → Int32) => WF T a ∧ a 2 = R1 2 ∧ a 3 = R1 3 ∧ Z (og a o 4)) ⟨w1, rfl, rfl, by rw [q1.2]; exact h⟩ (fun k hk a ha => ?_)).2.2
    have hk' : k < nb a := by unfold nb at hk ⊢; rw [ha.2.1]; exact hk
    have k5 := ha.1.nb5
    have k30 := ha.1.no30
    refine ⟨wf_pull ha.1 hk', (plR_s ha.1 hk' (by decide)).trans ha.2.1, (plR_s ha.1 hk' (by decide)).trans ha.2.2.1, ?_⟩
    unfold plR
    rcases qd_cases ha.1 (nI k) 0 with e | ⟨o', e1, e2, e3⟩
    · rw [if_pos e]; exact ha.2.2.2
    · rw [if_neg (by rw [e2]; exact nI_m1 (by omega)), e2, nI_clamp (by omega)]
      have e4 := (bel1 e3).1
      have hne : o ≠ o' := fun e => by
        have := ha.2.2.2
        rw [e, e4] at this
        exact z1 this
      have : og (drawR (begR a k o') o') o 4 = og a o 4 := by
        have hb := beg_og (R := a) (b := k) (o := o') (x := o) (f := 4) (by omega) (by omega) (by decide) (by decide)
        rw [← hb]
        unfold drawR
        split
        · split
          · exact (sO_x hne (by decide) (by decide)).trans (sO_x hne (by decide) (by decide))
          · exact sO_x hne (by decide) (by decide)
        · rfl
      rw [this]
      exact ha.2.2.2
  have ho2 : o < no R2 := by unfold no at ho1 ⊢; rw [q2.1]; exact ho1
  have q3 : R3 3 = R2 3 ∧ Z (og R3 o 4) := by
    rw [h3]
    unfold svR
    refine (fo_inv (P := fun (a : Nat → Int32) => WF T a ∧ a 2 = R2 2 ∧ a 3 = R2 3 ∧ Z (og a o 4)) ⟨w2, rfl, rfl, q2.2⟩ (fun k hk a ha => ?_)).2.2
    refine fo_inv (P := fun (a : Nat → Int32) => WF T a ∧ a 2 = R2 2 ∧ a 3 = R2 3 ∧ Z (og a o 4)) ha (fun o' ho' x hx => ?_)
    have hk' : k < nb x := by unfold nb at hk ⊢; rw [hx.2.1]; exact hk
    have ho'' : o' < no x := by unfold no at ho' ⊢; rw [hx.2.2.1]; exact ho'
    obtain ⟨r1, -, -, r2, r3⟩ := er_w hx.1 hk' ho''
    refine ⟨r1, r2.trans hx.2.1, r3.trans hx.2.2.1, ?_⟩
    have k5 := hx.1.nb5
    have := (hx.1.2.1 k hk').ePl.2
    have := hx.1.np16
    unfold er
    split
    · rename_i hc
      have hne : o ≠ o' := fun e => by
        have h9 := hx.2.2.2
        rw [e, (canE_1 hc).2.1] at h9
        exact z2 h9
      rw [eat_og (by omega) (by omega) (Or.inl hne) (by decide)]
      exact hx.2.2.2
    · exact hx.2.2.2
  have q4 : Z (og (fo (fun o a => exR o a) (no R3) R3) o 4) := by
    refine (fo_inv (P := fun (a : Nat → Int32) => WF T a ∧ a 3 = R3 3 ∧ Z (og a o 4)) ⟨w3, rfl, q3.2⟩ (fun k hk a ha => ?_)).2.2
    have hk' : k < no a := by unfold no at hk ⊢; rw [ha.2.1]; exact hk
    obtain ⟨r1, -, -, -, r3, -⟩ := ex_w ha.1 hk'
    refine ⟨r1, r3.trans ha.2.1, ?_⟩
    by_cases e : o = k
    · subst e
      have h4' := aX_4 a o
      unfold exR
      split
      · rename_i hc
        rw [show og (upd (upd (sO (sO a o 4 4) o 5 (-1)) 4 (a 4 - 2)) 6 (a 6 + 1)) o 4 = 4 from h4']
        have hz := ha.2.2
        rcases alive_st ha.1 hk' hc.1 with e | e | e
        · rw [e] at hz; exact z0 hz
        · rw [e] at hz; exact absurd hz z1
        · rw [e] at hz; exact absurd hz z2
      · exact ha.2.2
    · rw [ex_x e (by decide)]; exact ha.2.2
  rw [h4, show og (upd (fo (fun o a => exR o a) (no R3) R3) 0 (fo (fun o a => exR o a) (no R3) R3 0 + 1)) o 4 = og (fo (fun o a => exR o a) (no R3) R3) o 4 from up_n (by omega)]
  exact q4
theorem st_pm (w : WF T R) (ho : o < no R) (Z : Int32 → Prop) (z1 : ¬ Z 1) (z2 : ¬ Z 2) (z0 : Z 0 → Z 4) (h : Z (og R o 4)) : Z (og (pm R) o 4) := by
  unfold pm
  split
  · exact h
  · exact st_pmR w ho Z z1 z2 z0 h
theorem st_pmN (w : WF T R) (ho : o < no R) (Z : Int32 → Prop) (z1 : ¬ Z 1) (z2 : ¬ Z 2) (z0 : Z 0 → Z 4) (h : Z (og R o 4)) : ∀ n, Z (og (pmN n R) o 4) := by
  intro n
  induction n with
  | zero => exact h
  | succ n ih =>
    obtain ⟨w1, -, -, e3⟩ := pmN_w w n
    have ho' : o < no (pmN n R) := by unfold no at ho ⊢; rw [e3]; exact ho
    exact st_pm w1 ho' Z z1 z2 z0 ih
theorem eaten_stays (w : WF T R) (ho : o < no R) (h : og R o 4 = 3) (n : Nat) : og (pmN n R) o 4 = 3 := st_pmN w ho (fun x => x = 3) (by decide) (by decide) (fun e => absurd e (by decide)) h n
theorem open_not (w : WF T R) (ho : o < no R) (h : og R o 4 = 0) (n : Nat) : ¬ og (pmN n R) o 4 = 3 := fun e => by
  have := st_pmN w ho (fun x => x = 0 ∨ x = 4) (by decide) (by decide) (fun _ => Or.inr rfl) (Or.inl h) n
  rw [e] at this
  rcases this with e | e <;> exact absurd e (by decide)
theorem pmN_add (R : Nat → Int32) (a : Nat) : ∀ n, pmN n (pmN a R) = pmN (a + n) R := by
  intro n
  induction n with
  | zero => rfl
  | succ n ih => show pm (pmN n (pmN a R)) = pm (pmN (a + n) R); rw [ih]
end COUNT
