/-! p65: each step keeps what is good -/
section GOOD2
variable {T P m i k b d o t f x j n' : Nat} {R R' : Nat → Int32} {p q u v bo pu mi : Int32}
theorem al0 (h : og R o 4 = 0) : alive R o = true := by unfold alive; rw [h]; decide
theorem al1 (h : og R o 4 = 1) : alive R o = true := by unfold alive; rw [h]; decide
theorem al2 (h : og R o 4 = 2) : alive R o = true := by unfold alive; rw [h]; decide
theorem al3 (h : og R o 4 = 3) : alive R o = false := by unfold alive; rw [h]; decide
theorem al4 (h : og R o 4 = 4) : alive R o = false := by unfold alive; rw [h]; decide
/-- one order changes; the others stay -/
theorem GO.one (g : GO m R) (hn : no R' = no R) (hx : ∀ x, x < no R → x ≠ o → ∀ f, f < 9 → og R' x f = og R x f) (h1 : og R' o 1 = og R o 1) (h4 : og R' o 4 = 3 ↔ og R o 4 = 3) (h5 : R' 5 = R 5) (h56 : ∀ t, t < 16 → R' (56 + t) = R (56 + t)) (hk : OK1 m R' o) : GO m R' := by
  refine ⟨fun x hx' => ?_, g.2.same (eb_same hn (fun x hx' => ?_)) h5 h56⟩
  · rw [hn] at hx'
    by_cases e : x = o
    · subst e; exact hk
    · exact (g.1 x hx').same (fun f hf _ _ _ => hx x hx' e f hf)
  · by_cases e : x = o
    · subst e; exact ⟨h1, h4⟩
    · rw [hx x hx' e 1 (by decide), hx x hx' e 4 (by decide)]; exact ⟨rfl, Iff.rfl⟩
theorem n3 {y : Int32} {z : Int32} (h : y = z) (hz : z ≠ 3) : ¬ y = 3 := by rw [h]; exact hz
theorem gd_take (g : Gd P m R) (w : WF T R) (ho : o < no R) (h4 : og R o 4 = 0) : Gd P m (aTake R b o) := by
  have n5 := w.nb5
  have n30 := w.no30
  refine ⟨g.1.same n5 (fun i hi => aT_i ?_ ?_), ⟨g.2.1.1.one (o := o) aT_no (fun x _ hx f hf => aT_x hx hf) (aT_f R b o (by decide) (by decide) (by decide) (by decide)) ⟨fun e => absurd e (n3 (aT_4 R b o) (by decide)), fun e => absurd e (n3 h4 (by decide))⟩ (aT_i (by omega) (by decide)) (fun t ht => aT_i (by omega) (by omega)) ?_, ?_⟩, g.2.2.same n5 sm_take⟩
  · unfold Kp at hi; omega
  · unfold Kp at hi; omega
  · obtain ⟨b', u', l, d', a1, a2, a3, a4, a5, a6, a7, a8, a9, a10, a11, a12⟩ := g.2.1.1.1 o ho
    unfold OK1
    rw [aT_f R b o (f := 1) (by decide) (by decide) (by decide) (by decide), aT_f R b o (f := 2) (by decide) (by decide) (by decide) (by decide), aT_f R b o (f := 7) (by decide) (by decide) (by decide) (by decide), aT_f R b o (f := 3) (by decide) (by decide) (by decide) (by decide), aT_f R b o (f := 6) (by decide) (by decide) (by decide) (by decide), aT_4]
    exact ⟨b', u', l, d', a1, a2, a3, a4, a5, a6, a7, a8, fun e => absurd e (by decide), fun _ => Or.inl (a9 h4), fun e => absurd e (by decide), fun _ => a12 (al0 h4)⟩
  · rw [aT_i (by omega) (by decide)]; exact g.2.1.2
theorem gd_drop (g : Gd P m R) (w : WF T R) (ho : o < no R) (hh : isHeld R o = true) : Gd P m (aDrop R o) := by
  have n5 := w.nb5
  have n30 := w.no30
  have hs : og R o 4 = 1 ∨ og R o 4 = 2 := by
    unfold isHeld at hh
    rw [Bool.or_eq_true, decide_eq_true_eq, decide_eq_true_eq] at hh
    exact hh
  have hal : alive R o = true := by rcases hs with e | e; exact al1 e; exact al2 e
  have h3 : ¬ og R o 4 = 3 := by rcases hs with e | e; exact n3 e (by decide); exact n3 e (by decide)
  have f := aD_f R o
  refine ⟨g.1.same n5 (fun i hi => aD_i ?_), ⟨g.2.1.1.one (o := o) aD_no (fun x _ hx f hf => aD_x hx hf) f.2.1 ⟨fun e => absurd e (n3 f.2.2.2.2.1 (by decide)), fun e => absurd e h3⟩ (aD_i (by omega)) (fun t ht => aD_i (by omega)) ?_, ?_⟩, g.2.2.same n5 sm_drop⟩
  · unfold Kp at hi; omega
  · obtain ⟨b', u', l, d', a1, a2, a3, a4, a5, a6, a7, a8, a9, a10, a11, a12⟩ := g.2.1.1.1 o ho
    unfold OK1
    rw [f.2.1, f.2.2.1, f.2.2.2.1, f.2.2.2.2.1, show og (aDrop R o) o 6 = 0 by simp (disch := omega) only [aDrop, og, sO, up_n, up_s], show og (aDrop R o) o 7 = og R o 2 by simp (disch := omega) only [aDrop, og, sO, up_n, up_s]]
    exact ⟨b', u', u', d', a1, a2, a2.2, a4, a5, a6, a6, a8, fun _ => ⟨rfl, rfl⟩, fun e => absurd e (by decide), fun e => absurd e (by decide), fun _ => a12 hal⟩
  · rw [aD_i (by omega)]; exact g.2.1.2
theorem gd_order (g : Gd P m R) (w : WF T R) (hm : m ≤ 10000) (e1 : bo = nI b) (h1 : 1 ≤ b) (h1' : b ≤ 4) (e2 : pu = nI f) (h2 : 1 ≤ f) (h2' : f ≤ 6) (e3 : mi = nI k) (h3 : 1 ≤ k) (h3' : k ≤ 500) : Gd P m (aOrder R p bo pu mi) := by
  have n5 := w.nb5
  have n30 := w.no30
  have fo' := aO_f R p bo pu mi
  have en := aO_no (p := p) (bo := bo) (pu := pu) (mi := mi) w
  have ox : ∀ x, x < no R → ∀ f, f < 9 → og (aOrder R p bo pu mi) x f = og R x f := fun x hx f hf => aO_x (by omega) hf
  refine ⟨g.1.same n5 (fun i hi => ?_), ⟨⟨fun x hx => ?_, ?_⟩, ?_⟩, g.2.2.same n5 sm_order⟩
  · unfold Kp at hi
    by_cases e : i < 72
    · exact aO_s e (by omega)
    · have := aO_b (R := R) (p := p) (bo := bo) (pu := pu) (mi := mi) (b := (i - 72) / 7) (f := (i - 72) % 7) (by omega) (by omega)
      unfold bg at this
      rw [show 72 + 7 * ((i - 72) / 7) + (i - 72) % 7 = i by omega] at this
      exact this
  · rw [en] at hx
    by_cases e : x = no R
    · subst e
      unfold OK1
      rw [fo'.2.1, fo'.2.2.1, fo'.2.2.2.1, fo'.2.2.2.2.1, fo'.2.2.2.2.2.2.1, fo'.2.2.2.2.2.2.2]
      refine ⟨b, f, f, m + k - 1, ⟨h1, h1'⟩, ⟨h2, h2'⟩, h2', by omega, e1, e2, e2, ?_, fun _ => ⟨rfl, rfl⟩, fun e => absurd e (by decide), fun e => absurd e (by decide), fun _ => by omega⟩
      rw [g.2.1.2, e3, nI_add, show (1 : Int32) = nI 1 from rfl, nI_sub (by omega)]
    · exact (g.2.1.1.1 x (by omega)).same (fun f hf _ _ _ => ox x (by omega) f hf)
  · have e : eb (aOrder R p bo pu mi) = eb R := by
      unfold eb
      rw [en]
      show sN _ (no R) + (if og (aOrder R p bo pu mi) (no R) 4 = 3 then bw (aOrder R p bo pu mi) (no R) else 0) = _
      rw [fo'.2.2.2.2.1, if_neg (by decide), Nat.add_zero]
      refine sN_congr _ (fun x hx => ?_)
      unfold bw
      rw [ox x hx 4 (by decide), ox x hx 1 (by decide)]
    exact g.2.1.1.2.same e (aO_s (by decide) (by decide)) (fun t ht => aO_s (by omega) (by omega))
  · rw [aO_s (by decide) (by decide)]; exact g.2.1.2
/-- moves -/
theorem mv_i (h0 : i ≠ 72 + 7 * b + 0) (h6 : i ≠ 72 + 7 * b + 6) : mvR R b i = R i := by
  unfold mvR sB
  split
  · split
    · exact up_n h0
    · split
      · exact up_n h6
      · rfl
  · split
    · rw [up_n h0, up_n h6]
    · exact up_n h6
theorem GL.mv (w : WF T R) (hb : b < nb R) (hs : sails R b = true) (g : GL R) : GL (mvR R b) := by
  have n5 := w.nb5
  have wb := w.2.1 b hb
  have pb := sails_ne wb hs
  obtain ⟨aj, j1, -⟩ := ahead_jj wb w.np16 pb
  have n16 := w.np16
  have il := inL_vl wb
  have ev := wb.eVl
  have en : nb (mvR R b) = nb R := by unfold nb; rw [mv_id (Or.inl (by omega))]
  intro d j hd hj hi ha
  rw [mv_id (i := 10 + j) (Or.inl (by omega))]
  rw [en] at hd
  by_cases hdb : d = b
  · subst hdb
    by_cases v0 : vl R d = 0
    · by_cases z0 : R (10 + jj R d) = 0
      · have e : mvR R d = sB R d 0 (nI (zz R d)) := by unfold mvR; rw [if_pos v0, if_pos z0]
        have e6 : bg (mvR R d) d 6 = bg R d 6 := by rw [e]; exact up_n (by omega)
        have : inL R d = true := by unfold inL at hi ⊢; rw [e6] at hi; exact hi
        rw [il] at this
        exact absurd v0 (of_decide_eq_true this)
      · by_cases w0 : who R (nI (jj R d)) = -1
        · have e : mvR R d = sB R d 6 (R (10 + jj R d)) := by unfold mvR; rw [if_pos v0, if_neg z0, if_pos w0]
          have e0 : bg (mvR R d) d 0 = bg R d 0 := by rw [e]; exact up_n (by omega)
          have e1 : bg (mvR R d) d 1 = bg R d 1 := by rw [e]; exact up_n (by omega)
          have : ahead R d = nI j := by unfold ahead at ha ⊢; rw [e0, e1] at ha; exact ha
          rw [aj] at this
          have ejj := nI_inj (by omega) (by omega) this
          rw [e, ← ejj, show bg (sB R d 6 (R (10 + jj R d))) d 6 = R (10 + jj R d) from up_s _ _ _]
          exact Int32.le_refl _
        · have e : mvR R d = R := by unfold mvR; rw [if_pos v0, if_neg z0, if_neg w0]
          rw [e, il] at hi
          exact absurd v0 (of_decide_eq_true hi)
    · by_cases v1 : vl R d = 1
      · have e : mvR R d = sB (sB R d 6 0) d 0 (nI (zz R d)) := by unfold mvR; rw [if_neg v0, if_pos v1]
        have e6 : bg (mvR R d) d 6 = 0 := by rw [e]; exact (up_n (by omega)).trans (up_s _ _ _)
        unfold inL at hi
        rw [e6] at hi
        exact absurd hi (by decide)
      · have e : mvR R d = sB R d 6 (nI (vl R d - 1)) := by unfold mvR; rw [if_neg v0, if_neg v1]
        have e0 : bg (mvR R d) d 0 = bg R d 0 := by rw [e]; exact up_n (by omega)
        have e1 : bg (mvR R d) d 1 = bg R d 1 := by rw [e]; exact up_n (by omega)
        have : ahead R d = nI j := by unfold ahead at ha ⊢; rw [e0, e1] at ha; exact ha
        have hle := g d j hd hj (by rw [il]; exact decide_eq_true v0) this
        rw [ev.1] at hle
        rw [e, show bg (sB R d 6 (nI (vl R d - 1))) d 6 = nI (vl R d - 1) from up_s _ _ _]
        exact Int32.le_trans (nI_le (by omega) (by omega)) hle
  · have e0 : bg (mvR R b) d 0 = bg R d 0 := mv_id (by omega)
    have e1 : bg (mvR R b) d 1 = bg R d 1 := mv_id (by omega)
    have e6 : bg (mvR R b) d 6 = bg R d 6 := mv_id (by omega)
    rw [e6]
    exact g d j hd hj (by unfold inL at hi ⊢; rw [e6] at hi; exact hi) (by unfold ahead at ha ⊢; rw [e0, e1] at ha; exact ha)
theorem gd_st (g : Gd P m R) (w : WF T R) (hb : b < nb R) : Gd P m (stM R b) := by
  have n5 := w.nb5
  have n30 := w.no30
  unfold stM
  split
  · rename_i hs
    refine ⟨g.1.same n5 (fun i hi => mv_i ?_ ?_), ⟨g.2.1.1.same n30 (fun i hi => mv_i ?_ ?_), ?_⟩, g.2.2.mv w hb hs⟩
    · unfold Kp at hi; omega
    · unfold Kp at hi; omega
    · unfold Ko at hi; omega
    · unfold Ko at hi; omega
    · rw [mv_i (by omega) (by omega)]; exact g.2.1.2
  · exact g
/-- pulls -/
theorem gd_beg (g : Gd P m R) (w : WF T R) (hb : b < nb R) (ho : o < no R) (h4 : og R o 4 = 1) : Gd P m (begR R b o) := by
  have n5 := w.nb5
  have n30 := w.no30
  unfold begR
  split
  · rename_i hc
    obtain ⟨b', u', l, d', a1, a2, a3, a4, a5, a6, a7, a8, a9, a10, a11, a12⟩ := g.2.1.1.1 o ho
    obtain ⟨f, hf, e3⟩ := g.1.1 b hb
    have hle : b' ≤ f := by
      have := hc.2
      rw [e3, a5] at this
      exact Nat.not_lt.1 (fun c => this (nI_lt c (by omega)))
    have ei : ∀ i, i ≠ 72 + 7 * b + 3 → i ≠ 107 + 9 * o + 6 → sO (sB R b 3 (bg R b 3 + -(og R o 1))) o 6 1 i = R i := fun i h1 h2 => by unfold sO sB; rw [up_n h2, up_n h1]
    have e3' : bg (sO (sB R b 3 (bg R b 3 + -(og R o 1))) o 6 1) b 3 = nI (f - b') := by
      rw [show bg (sO (sB R b 3 (bg R b 3 + -(og R o 1))) o 6 1) b 3 = bg R b 3 + -(og R o 1) from (up_n (by omega)).trans (up_s _ _ _), e3, a5, ← Int32.sub_eq_add_neg, nI_sub hle]
    have e6 : og (sO (sB R b 3 (bg R b 3 + -(og R o 1))) o 6 1) o 6 = 1 := up_s _ _ _
    have ex : ∀ x f, f < 9 → (x ≠ o ∨ f ≠ 6) → og (sO (sB R b 3 (bg R b 3 + -(og R o 1))) o 6 1) x f = og R x f := fun x f hf hn => ei _ (by omega) (by omega)
    refine ⟨g.1.flour n5 hb (f := f - b') (by omega) e3' (fun i h1 h2 => ei i h1 (by unfold Kp at h2; omega)), ⟨g.2.1.1.one (o := o) (by unfold no; rw [ei 3 (by omega) (by omega)]) (fun x _ hx f hf => ex x f hf (Or.inl hx)) (ex o 1 (by decide) (by omega)) (by rw [ex o 4 (by decide) (by omega)]) (ei 5 (by omega) (by omega)) (fun t ht => ei _ (by omega) (by omega)) ?_, by rw [ei 0 (by omega) (by omega)]; exact g.2.1.2⟩, g.2.2.same n5 (fun i hi => ei i (by unfold Ky at hi; omega) (by unfold Ky at hi; omega))⟩
    unfold OK1 alive
    rw [e6, ex o 1 (by decide) (by omega), ex o 2 (by decide) (by omega), ex o 3 (by decide) (by omega), ex o 4 (by decide) (by omega), ex o 7 (by decide) (by omega), h4]
    have := a10 h4
    refine ⟨b', u', l, d', a1, a2, a3, a4, a5, a6, a7, a8, fun e => absurd e (by decide), fun _ => Or.inr ⟨rfl, ?_⟩, fun e => absurd e (by decide), fun _ => a12 (al1 h4)⟩
    rcases this with ⟨_, e⟩ | ⟨_, e⟩
    · omega
    · exact e
  · exact g
theorem gd_draw (g : Gd P m R) (w : WF T R) (ho : o < no R) (h4 : og R o 4 = 1) : Gd P m (drawR R o) := by
  have n5 := w.nb5
  have n30 := w.no30
  unfold drawR
  split
  · rename_i h6
    obtain ⟨b', u', l, d', a1, a2, a3, a4, a5, a6, a7, a8, a9, a10, a11, a12⟩ := g.2.1.1.1 o ho
    have hl : 1 ≤ l := by
      rcases a10 h4 with ⟨e, _⟩ | ⟨_, e⟩
      · rw [h6] at e; exact absurd e (by decide)
      · exact e
    have e7 : og R o 7 - 1 = nI (l - 1) := by rw [a7, show (1 : Int32) = nI 1 from rfl, nI_sub hl]
    rw [e7]
    split
    · rename_i h0
      have hl0 : l - 1 = 0 := nI_inj (a := l - 1) (b := 0) (by omega) (by decide) h0
      have ei : ∀ i, i ≠ 107 + 9 * o + 7 → i ≠ 107 + 9 * o + 4 → sO (sO R o 7 (nI (l - 1))) o 4 2 i = R i := fun i h1 h2 => by unfold sO; rw [up_n h2, up_n h1]
      have ex : ∀ x f, f < 9 → (x ≠ o ∨ (f ≠ 7 ∧ f ≠ 4)) → og (sO (sO R o 7 (nI (l - 1))) o 4 2) x f = og R x f := fun x f hf hn => ei _ (by omega) (by omega)
      have e4 : og (sO (sO R o 7 (nI (l - 1))) o 4 2) o 4 = 2 := up_s _ _ _
      have e7' : og (sO (sO R o 7 (nI (l - 1))) o 4 2) o 7 = nI (l - 1) := (up_n (by omega)).trans (up_s _ _ _)
      refine ⟨g.1.same n5 (fun i hi => ei i (by unfold Kp at hi; omega) (by unfold Kp at hi; omega)), ⟨g.2.1.1.one (o := o) (by unfold no; rw [ei 3 (by omega) (by omega)]) (fun x _ hx f hf => ex x f hf (Or.inl hx)) (ex o 1 (by decide) (by omega)) ⟨fun e => absurd e (n3 e4 (by decide)), fun e => absurd e (n3 h4 (by decide))⟩ (ei 5 (by omega) (by omega)) (fun t ht => ei _ (by omega) (by omega)) ?_, by rw [ei 0 (by omega) (by omega)]; exact g.2.1.2⟩, g.2.2.same n5 (fun i hi => ei i (by unfold Ky at hi; omega) (by unfold Ky at hi; omega))⟩
      unfold OK1 alive
      rw [e4, e7', ex o 1 (by decide) (by omega), ex o 2 (by decide) (by omega), ex o 3 (by decide) (by omega), ex o 6 (by decide) (by omega)]
      exact ⟨b', u', l - 1, d', a1, a2, by omega, a4, a5, a6, rfl, a8, fun e => absurd e (by decide), fun e => absurd e (by decide), fun _ => hl0, fun _ => a12 (al1 h4)⟩
    · rename_i h0
      have hl0 : 1 ≤ l - 1 := Nat.one_le_iff_ne_zero.2 (fun e => h0 (by rw [e]; rfl))
      have ei : ∀ i, i ≠ 107 + 9 * o + 7 → sO R o 7 (nI (l - 1)) i = R i := fun i h1 => by unfold sO; rw [up_n h1]
      have ex : ∀ x f, f < 9 → (x ≠ o ∨ f ≠ 7) → og (sO R o 7 (nI (l - 1))) x f = og R x f := fun x f hf hn => ei _ (by omega)
      have e7' : og (sO R o 7 (nI (l - 1))) o 7 = nI (l - 1) := up_s _ _ _
      refine ⟨g.1.same n5 (fun i hi => ei i (by unfold Kp at hi; omega)), ⟨g.2.1.1.one (o := o) (by unfold no; rw [ei 3 (by omega)]) (fun x _ hx f hf => ex x f hf (Or.inl hx)) (ex o 1 (by decide) (by omega)) (by rw [ex o 4 (by decide) (by omega)]) (ei 5 (by omega)) (fun t ht => ei _ (by omega)) ?_, by rw [ei 0 (by omega)]; exact g.2.1.2⟩, g.2.2.same n5 (fun i hi => ei i (by unfold Ky at hi; omega))⟩
      unfold OK1 alive
      rw [e7', ex o 1 (by decide) (by omega), ex o 2 (by decide) (by omega), ex o 3 (by decide) (by omega), ex o 6 (by decide) (by omega), ex o 4 (by decide) (by omega), h4, h6]
      exact ⟨b', u', l - 1, d', a1, a2, by omega, a4, a5, a6, rfl, a8, fun e => absurd e (by decide), fun _ => Or.inr ⟨rfl, hl0⟩, fun e => absurd e (by decide), fun _ => a12 (al1 h4)⟩
  · exact g
theorem beg_og (ho : o < 30) (hb : b < 5) (hf : f < 9) (h6 : f ≠ 6) : og (begR R b o) x f = og R x f := by
  unfold begR
  split
  · exact (up_n (by omega)).trans (up_n (by omega))
  · rfl
theorem beg_no (hb : b < 5) : no (begR R b o) = no R := by
  unfold begR
  split
  · unfold no sO sB; rw [up_n (by omega), up_n (by omega)]
  · rfl
theorem gd_pl (g : Gd P m R) (w : WF T R) (hb : b < nb R) : Gd P m (plR R b) := by
  have n5 := w.nb5
  have n30 := w.no30
  unfold plR
  rcases qd_cases w (nI b) 0 with h | ⟨o, h1, h2, h3⟩
  · rw [if_pos h]; exact g
  · rw [if_neg (by rw [h2]; exact nI_m1 (by omega)), h2, nI_clamp (by omega)]
    have h4 := (bel1 h3).1
    have w1 : WF T (begR R b o) := begR_w w hb h1
    exact gd_draw (gd_beg g w hb h1 h4) w1 (by rw [beg_no (by omega)]; exact h1) (by rw [beg_og (by omega) (by omega) (by decide) (by decide)]; exact h4)
end GOOD2
