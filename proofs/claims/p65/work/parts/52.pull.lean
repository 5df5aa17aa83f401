/-! a barge's cook pulls -/
def begR (R : Nat → Int32) (b o : Nat) : Nat → Int32 := if og R o 6 = 0 ∧ ¬ bg R b 3 < og R o 1 then sO (sB R b 3 (bg R b 3 + -(og R o 1))) o 6 1 else R
def drawR (R : Nat → Int32) (o : Nat) : Nat → Int32 := if og R o 6 = 1 then (if og R o 7 - 1 = 0 then sO (sO R o 7 (og R o 7 - 1)) o 4 2 else sO R o 7 (og R o 7 - 1)) else R
def plR (R : Nat → Int32) (b : Nat) : Nat → Int32 := if qd R (nI b) 0 = -1 then R else drawR (begR R b (qd R (nI b) 0).toNatClampNeg) (qd R (nI b) 0).toNatClampNeg
section PULL
variable {i : Nat} {M M' : TM} {r c T k : Nat} {R R' : Nat → Int32} {K : Int32 → TM → Prop} {KV : TM → Prop} {p q u s v : Int32} {b d o f j a t x : Nat} {l : List Nat}
theorem qd_cases (w : WF T R) (q s : Int32) : qd R q s = -1 ∨ ∃ o, o < no R ∧ qd R q s = nI o ∧ bel R o q 1 = true := by
  unfold qd
  rcases ff_cases (fun o => bel R o q 1 && decide (nI (idx R o q) = s)) (no R) with ⟨h, _⟩ | ⟨o, h1, h2, h3, _⟩
  · exact Or.inl h
  · rw [Bool.and_eq_true] at h3
    exact Or.inr ⟨o, h1, h2, h3.1⟩
theorem bel1 (h : bel R o q s = true) : og R o 4 = s ∧ og R o 5 = q := by
  unfold bel at h
  rw [Bool.and_eq_true, decide_eq_true_eq, decide_eq_true_eq] at h
  exact h
theorem sO_i (ho : i < 107 + 9 * o ∨ 107 + 9 * o + 9 ≤ i) (hf : f < 9) : sO R o f v i = R i := up_n (by omega)
theorem sO_x (hx : x ≠ o) (hf : f < 9) (hj : j < 9) : og (sO R o f v) x j = og R x j := up_n (by omega)
theorem sO_f (hj : j ≠ f) : og (sO R o f v) o j = og R o j := up_n (by omega)
theorem sO_s : og (sO R o f v) o f = v := up_s _ _ _
theorem sO_no (hf : f < 9) : no (sO R o f v) = no R := by unfold no; rw [sO_i (by omega) hf]
theorem sO_bel (hf : f < 9) (h4 : f ≠ 4) (h5 : f ≠ 5) : bel (sO R o f v) x q s = bel R x q s := by
  unfold bel
  by_cases e : x = o
  · subst e; rw [sO_f (fun e => h4 e.symm), sO_f (fun e => h5 e.symm)]
  · rw [sO_x e hf (by decide), sO_x e hf (by decide)]
theorem sO_cIn (hf : f < 9) (h4 : f ≠ 4) : cIn (sO R o f v) s = cIn R s := by
  unfold cIn
  rw [sO_no hf]
  refine cn_congr _ (fun k hk => ?_)
  by_cases e : k = o
  · subst e; rw [sO_f (fun e => h4 e.symm)]
  · rw [sO_x e hf (by decide)]
/-- a field of an order that no count reads -/
theorem RelC.ord1 (h : RelC c M R) (w : WF T R) (ho : o < no R) (hf : f < 9) (h4 : f ≠ 4) (h5 : f ≠ 5) (h8 : f ≠ 8) (hM : ∀ i, i ≠ c + 31 + o → M' i = M i) (hO : Or (c + 31 + o) M' (sO R o f v) o) : RelC c M' (sO R o f v) := by
  have n5 := w.nb5
  have n30 := w.no30
  refine h.ord (o := o) n5 n30 (fun i _ h2 => sO_i h2 hf) (sO_i (by omega) hf) (sO_i (by omega) hf) (fun j hj => ⟨sO_i (by omega) hf, sO_i (by omega) hf⟩) (fun j hj => ⟨sO_i (by omega) hf, sO_i (by omega) hf⟩) (fun k h1 h2 => hM k (by omega)) (fun d hd f _ => by rw [hM _ (by omega)]) (fun d hd => ?_) (fun x hx hne => hM _ (by omega)) ?_ (fun _ => hO)
  · refine (h.2.2.2.2.1 d hd).congr (by rw [hM _ (by omega)]) (by rw [hM _ (by omega)]) (fun l hl => hl.same (sO_no hf) (fun x hx => sO_bel hf h4 h5) (fun x hx _ => ?_))
    by_cases e : x = o
    · subst e; exact sO_f (fun e => h8 e.symm)
    · exact sO_x e hf (by decide)
  · unfold Sc
    rw [sO_cIn hf h4, hM c (by omega)]
    rw [sO_i (i := 0) (by omega) hf, sO_i (i := 1) (by omega) hf, sO_i (i := 2) (by omega) hf, sO_i (i := 3) (by omega) hf, sO_i (i := 4) (by omega) hf, sO_i (i := 5) (by omega) hf, sO_i (i := 6) (by omega) hf, sO_i (i := 7) (by omega) hf]
    exact h.1
theorem WF.ord1 (w : WF T R) (ho : o < no R) (hf : f = 6 ∧ (v = 0 ∨ v = 1) ∨ f = 7) : WF T (sO R o f v) := by
  have n5 := w.nb5
  have n30 := w.no30
  have f9 : f < 9 := by omega
  have g0 : 0 ≠ f ∧ 4 ≠ f ∧ 5 ≠ f ∧ 8 ≠ f := by omega
  obtain ⟨tu, ht, e8⟩ := w.1.2.2.2.2.1
  have np' : np (sO R o f v) = np R := by unfold np; rw [sO_i (by omega) f9]
  refine w.ord (o := o) (fun i _ h2 => sO_i h2 f9) (sO_i (by omega) f9) (sO_i (by omega) f9) (sO_i (by omega) f9) (sO_i (by omega) f9) ⟨tu, ht, by rw [sO_i (by omega) f9]; exact e8, by rw [sO_i (by omega) f9]; exact Nat.le_refl _⟩ (fun j hj => sO_i (by omega) f9) (fun j hj => ⟨sO_i (by omega) f9, sO_i (by omega) f9⟩) ?_ ?_ (fun d hd => ?_) (fun x y hx hy hx4 hy4 he => ?_)
  · rw [sO_i (by omega) f9, sO_cIn f9 (by omega)]
    exact w.1.2.2.2.2.2.1
  · obtain ⟨p, s, a1, a2, a3, a4, a5, a6, a7, a8⟩ := w.2.2.1 o ho
    unfold WO
    rw [np', sO_f g0.1, sO_f g0.2.1, sO_f g0.2.2.1, sO_f g0.2.2.2, sO_i (i := 8) (by omega) f9, show nb (sO R o f v) = nb R by unfold nb; rw [sO_i (by omega) f9]]
    refine ⟨p, s, a1, a2, a3, a4, ?_, a6, a7, a8⟩
    rcases hf with ⟨rfl, hv⟩ | rfl
    · rw [sO_s]; exact hv
    · rw [sO_f (by decide)]; exact a5
  · rw [show held (sO R o f v) d = held R d by unfold held; rw [sO_no f9]; exact cn_congr _ (fun k hk => by rw [sO_bel f9 (by omega) (by omega), sO_bel f9 (by omega) (by omega)])]
    exact w.2.2.2.2.1 d hd
  · rw [sO_no f9] at hx hy
    have g : ∀ z j, j < 9 → j ≠ f → og (sO R o f v) z j = og R z j := fun z j h9 hne => by
      by_cases e : z = o
      · subst e; exact sO_f hne
      · exact sO_x e f9 h9
    rw [g _ 4 (by decide) (by omega)] at hx4 hy4
    rw [g _ 8 (by decide) (by omega), g _ 8 (by decide) (by omega)] at he
    exact w.2.2.2.2.2 x y hx hy hx4 hy4 he
/-- flour is taken -/
theorem wf_fl (w : WF T R) (hb : b < nb R) : WF T (sB R b 3 v) := by
  have n5 := w.nb5
  have g : ∀ d f, f ≠ 3 → f < 7 → bg (sB R b 3 v) d f = bg R d f := fun d f h1 h2 => up_n (by omega)
  have ww := (wl_same w (R' := sB R b 3 v) (up_n (by omega)) (fun d hd => ⟨g d 0 (by decide) (by decide), g d 1 (by decide) (by decide), g d 6 (by decide) (by decide)⟩)).1
  refine w.bar hb (fun i h1 h2 => up_n (by omega)) ?_ ?_ ?_ ?_ ?_ ?_ (fun j hj => ?_) (fun j h1 h2 => ?_) ?_ ww
  iterate 6 simp (disch := omega) only [sB, up_n]
  · simp (disch := omega) only [sB, up_n]
  · simp (disch := omega) only [sB, up_n]
    exact w.1.2.2.2.2.2.2.2 j h1 h2
  · obtain ⟨p, t', v', a1, a2, a3, a4, a5, a6, a7⟩ := w.2.1 b hb
    have np' : np (sB R b 3 v) = np R := by unfold np; simp (disch := omega) only [sB, up_n]
    exact ⟨p, t', v', by rw [np']; exact a1, by rw [np']; exact a2, a3, by rw [g b 0 (by decide) (by decide)]; exact a4, by rw [g b 1 (by decide) (by decide)]; exact a5, by rw [g b 6 (by decide) (by decide)]; exact a6, a7⟩
theorem rel_fl (w : WF T R) (h : RelC c M R) (hb : b < nb R) : RelC c (u2 M (c + 21 + 2 * b) 4 v) (sB R b 3 v) := by
  have n5 := w.nb5
  have n30 := w.no30
  have hB := h.2.2.2.1 b hb
  have so : SOr R (sB R b 3 v) := ⟨by simp (disch := omega) only [sB, up_n], fun o ho f hf => by simp (disch := omega) only [og, sB, up_n]⟩
  have ww := (wl_same w (R' := sB R b 3 v) (by simp (disch := omega) only [sB, up_n]) (fun d hd => by simp (disch := omega) only [bg, sB, up_n]; exact ⟨trivial, trivial, trivial⟩)).2
  refine h.bar n5 n30 hb (fun i h1 h2 => by simp (disch := omega) only [sB, up_n]) (by simp (disch := omega) only [sB, up_n]) so.1 (fun k h1 h2 h3 => by simp (disch := omega) only [uR_n]) (by simp (disch := omega) only [uR_s, up_n]) ?_ (fun j hj => ?_) (fun j hj => ?_) ?_
  · unfold Sc
    rw [so.eCIn]
    simp (disch := omega) only [sB, uR_n, up_n]
    exact h.1
  · exact (h.2.1 j hj).congr (by simp (disch := omega) only [uR_n]) (by simp (disch := omega) only [sB, up_n]) (by simp (disch := omega) only [sB, up_n]) (ww _)
  · simp (disch := omega) only [sB, uR_n, up_n]
    exact h.2.2.1 j hj
  · unfold Ba at hB ⊢
    simp (disch := omega) only [bg, sB, uR_s, up_n, up_s]
    exact ⟨hB.1, hB.2.1, hB.2.2.1, hB.2.2.2.1, trivial, hB.2.2.2.2.2⟩
/-- an order is ready -/
theorem wf_ready (w : WF T R) (ho : o < no R) (h4 : og R o 4 = 1) : WF T (sO R o 4 2) := by
  have n5 := w.nb5
  have n30 := w.no30
  obtain ⟨tu, ht, e8⟩ := w.1.2.2.2.2.1
  have np' : np (sO R o 4 2) = np R := by unfold np; rw [sO_i (by omega) (by decide)]
  refine w.ord (R' := sO R o 4 2) (o := o) (fun i _ h2 => sO_i h2 (by decide)) (sO_i (by omega) (by decide)) (sO_i (by omega) (by decide)) (sO_i (by omega) (by decide)) (sO_i (by omega) (by decide)) ⟨tu, ht, by rw [sO_i (by omega) (by decide)]; exact e8, by rw [sO_i (by omega) (by decide)]; exact Nat.le_refl _⟩ (fun j hj => sO_i (by omega) (by decide)) (fun j hj => ⟨sO_i (by omega) (by decide), sO_i (by omega) (by decide)⟩) ?_ ?_ (fun d hd => ?_) (fun x y hx hy hx4 hy4 he => ?_)
  · rw [sO_i (by omega) (by decide), w.1.2.2.2.2.2.1]
    unfold cIn
    rw [sO_no (by decide)]
    refine congrArg nI (cn_congr _ (fun k hk => ?_))
    by_cases e : k = o
    · subst e; rw [sO_s, h4]; decide
    · rw [sO_x e (by decide) (by decide)]
  · obtain ⟨p, s, a1, a2, a3, a4, a5, a6, a7, a8⟩ := w.2.2.1 o ho
    have : s = 1 := nI_inj (b := 1) (by omega) (by decide) (a4.symm.trans h4)
    unfold WO
    rw [np', sO_f (by decide), sO_s, sO_f (j := 5) (by decide), sO_f (j := 6) (by decide), show nb (sO R o 4 2) = nb R by unfold nb; rw [sO_i (by omega) (by decide)]]
    exact ⟨p, 2, a1, by decide, a3, rfl, a5, fun _ => a6 (Or.inl this), fun h => absurd (Or.inr rfl) h, fun h => by omega⟩
  · refine Nat.le_trans ?_ (w.2.2.2.2.1 d hd)
    unfold held
    rw [sO_no (by decide)]
    refine cn_mono _ (fun k hk h => ?_)
    by_cases e : k = o
    · subst e
      unfold bel at h ⊢
      rw [sO_s, sO_f (j := 5) (by decide)] at h
      rw [h4]
      simpa using h
    · unfold bel at h ⊢
      rw [sO_x e (by decide) (by decide), sO_x e (by decide) (by decide)] at h
      exact h
  · rw [sO_no (by decide)] at hx hy
    have ex : x ≠ o := fun e => by subst e; rw [sO_s] at hx4; exact absurd hx4 (by decide)
    have ey : y ≠ o := fun e => by subst e; rw [sO_s] at hy4; exact absurd hy4 (by decide)
    rw [sO_x ex (by decide) (by decide)] at hx4
    rw [sO_x ey (by decide) (by decide)] at hy4
    rw [sO_x ex (by decide) (by decide), sO_x ey (by decide) (by decide)] at he
    exact w.2.2.2.2.2 x y hx hy hx4 hy4 he
theorem begR_w (w : WF T R) (hb : b < nb R) (ho : o < no R) : WF T (begR R b o) := by
  have n5 := w.nb5
  unfold begR
  split
  · exact (wf_fl w hb).ord1 (by rw [show no (sB R b 3 (bg R b 3 + -(og R o 1))) = no R by unfold no; rw [show sB R b 3 (bg R b 3 + -(og R o 1)) 3 = R 3 from up_n (by omega)]]; exact ho) (Or.inl ⟨rfl, Or.inr rfl⟩)
  · exact w
theorem begR_i (n5 : b < 5) (h : i < 72 ∨ 107 ≤ i) (h2 : i ≠ 107 + 9 * o + 6) : begR R b o i = R i := by
  unfold begR
  split
  · simp (disch := omega) only [sO, sB, up_n]
  · rfl
theorem drawR_i (h : i ≠ 107 + 9 * o + 7) (h2 : i ≠ 107 + 9 * o + 4) : drawR R o i = R i := by
  unfold drawR
  split
  · split
    · simp (disch := omega) only [sO, up_n]
    · simp (disch := omega) only [sO, up_n]
  · rfl
theorem drawR_w (w : WF T R) (ho : o < no R) (h4 : og R o 4 = 1) : WF T (drawR R o) := by
  unfold drawR
  split
  · split
    · refine wf_ready (w.ord1 ho (Or.inr rfl)) (by rw [sO_no (by decide)]; exact ho) ?_
      rw [sO_f (by decide)]
      exact h4
    · exact w.ord1 ho (Or.inr rfl)
  · exact w
theorem wf_pull (w : WF T R) (hb : b < nb R) : WF T (plR R b) := by
  have n5 := w.nb5
  have n30 := w.no30
  unfold plR
  rcases qd_cases w (nI b) 0 with h | ⟨o, ho, h, hbel⟩
  · rw [if_pos h]; exact w
  · rw [h, if_neg (nI_m1 (by omega)), nI_clamp (by omega)]
    refine drawR_w (begR_w w hb ho) ?_ ?_
    · rw [show no (begR R b o) = no R by unfold no; rw [begR_i (by omega) (by omega) (by omega)]]; exact ho
    · rw [show og (begR R b o) o 4 = og R o 4 from begR_i (by omega) (by omega) (by omega)]
      exact (bel1 hbel).1
theorem plR_s (w : WF T R) (hb : b < nb R) (hj : j < 72) : plR R b j = R j := by
  have n5 := w.nb5
  unfold plR
  split
  · rfl
  · rw [drawR_i (by omega) (by omega), begR_i (by omega) (by omega) (by omega)]
end PULL
