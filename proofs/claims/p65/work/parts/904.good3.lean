/-! p65: meals and expiries keep what is good; a minute does -/
section GOOD3
variable {T P m i k b d o t f x j n' : Nat} {R R' : Nat → Int32} {p q u v : Int32}
theorem eb_lt (n30 : no R ≤ 30) (h : ∀ o, o < no R → ∃ b, b ≤ 4 ∧ og R o 1 = nI b) : eb R ≤ 120 := by
  have : eb R ≤ no R * 4 := sN_le _ (fun o ho => by
    split
    · obtain ⟨b, hb, e⟩ := h o ho
      unfold bw
      rw [e, nI_clamp (by omega)]
      exact hb
    · omega)
  omega
theorem gd_eat (g : Gd P m R) (w : WF T R) (hb : b < nb R) (ho : o < no R) (hc : canE R b o = true) : Gd P m (eatR R b o) := by
  have n5 := w.nb5
  have n30 := w.no30
  have n16 := w.np16
  obtain ⟨c1, c2, c3, c4, c5⟩ := canE_1 hc
  have hpl := (w.2.1 b hb).ePl
  have hp : pl R b < 16 := by omega
  obtain ⟨b', u', l, d', a1, a2, a3, a4, a5, a6, a7, a8, a9, a10, a11, a12⟩ := g.2.1.1.1 o ho
  have hlt := g.1.lt
  have hcl := (g.1.2.1 b hb).1
  have hle : b' ≤ cl R b := by
    rw [hcl, a5] at c5
    have := hlt.1 b hb
    exact Nat.not_lt.1 (fun c => c5 (nI_lt c (by omega)))
  have hl0 := hlt.2.2 b _ hb hp
  have ei : ∀ i, i ≠ 107 + 9 * o + 4 → i ≠ 107 + 9 * o + 5 → i ≠ 72 + 7 * b + 4 → i ≠ 40 + pl R b → i ≠ 56 + pl R b → i ≠ 5 → i ≠ 4 → eatR R b o i = R i := fun i h1 h2 h3 h4 h5 h6 h7 => eat_n h1 h2 h3 h4 h5 h6 h7
  have ebw : bw R o = b' := by unfold bw; rw [a5, nI_clamp (by omega)]
  -- what changes
  have f4 : bg (eatR R b o) b 4 = nI (cl R b - b') := by
    show eatR R b o (72 + 7 * b + 4) = _
    rw [eat_d (by omega) (by omega), show R (72 + 7 * b + 4) = nI (cl R b) from hcl]
    unfold dE
    rw [if_pos rfl, a5, ← Int32.sub_eq_add_neg, nI_sub hle]
  have fu : eatR R b o (40 + pl R b) = nI (us R (pl R b) + b') := by
    rw [eat_d (by omega) (by omega), g.1.2.2.1 _ hp]
    unfold dE
    rw [if_neg (by omega), if_pos rfl, a5, nI_add]
  have fe : eatR R b o (56 + pl R b) = nI (ea R (pl R b) + b') := by
    rw [eat_d (by omega) (by omega), g.2.1.1.2.2.1 _ hp]
    unfold dE
    rw [if_neg (by omega), if_neg (by omega), if_pos rfl, a5, nI_add]
  have f5 : eatR R b o 5 = nI (eb R + b') := by
    rw [eat_d (by omega) (by omega), g.2.1.1.2.1]
    unfold dE
    rw [if_neg (by omega), if_neg (by omega), if_neg (by omega), if_pos rfl, a5, nI_add]
  have fbn : ∀ d f, d < nb R → f < 7 → (d ≠ b ∨ f ≠ 4) → bg (eatR R b o) d f = bg R d f := fun d f hd hf hn => ei _ (by omega) (by omega) (by omega) (by omega) (by omega) (by omega) (by omega)
  have fun' : ∀ t, t < 16 → t ≠ pl R b → eatR R b o (40 + t) = R (40 + t) := fun t ht hn => ei _ (by omega) (by omega) (by omega) (by omega) (by omega) (by omega) (by omega)
  have fen : ∀ t, t < 16 → t ≠ pl R b → eatR R b o (56 + t) = R (56 + t) := fun t ht hn => ei _ (by omega) (by omega) (by omega) (by omega) (by omega) (by omega) (by omega)
  have fo' : ∀ x f, f < 9 → (x ≠ o ∨ f ≠ 4 ∧ f ≠ 5) → og (eatR R b o) x f = og R x f := fun x f hf h => eat_og (by omega) hp h hf
  have e4 : og (eatR R b o) o 4 = 3 := eat_o4
  have eno : no (eatR R b o) = no R := by unfold no; rw [ei 3 (by omega) (by omega) (by omega) (by omega) (by omega) (by omega) (by omega)]
  have enb : nb (eatR R b o) = nb R := by unfold nb; rw [ei 2 (by omega) (by omega) (by omega) (by omega) (by omega) (by omega) (by omega)]
  have ec : cl (eatR R b o) b = cl R b - b' := by unfold cl; rw [f4, nI_clamp (by omega)]; rfl
  have ecn : ∀ d, d < nb R → d ≠ b → cl (eatR R b o) d = cl R d := fun d hd hn => by unfold cl; rw [fbn d 4 hd (by decide) (Or.inl hn)]
  have ed : ∀ d, d < nb R → dt (eatR R b o) d = dt R d := fun d hd => by unfold dt; rw [fbn d 5 hd (by decide) (Or.inr (by decide))]
  have eu : us (eatR R b o) (pl R b) = us R (pl R b) + b' := by unfold us; rw [fu, nI_clamp (by omega)]; rfl
  have eun : ∀ t, t < 16 → t ≠ pl R b → us (eatR R b o) t = us R t := fun t ht hn => by unfold us; rw [fun' t ht hn]
  have hea : ea R (pl R b) ≤ eb R := by
    have := g.2.1.1.2.2.2
    have h2 := sN_mem (f := ea R) 16 hp
    omega
  have heb := eb_lt n30 (fun x hx => by
    obtain ⟨b2, _, _, _, z1, _, _, _, z5, _⟩ := g.2.1.1.1 x hx
    exact ⟨b2, z1.2, z5⟩)
  have ee : ea (eatR R b o) (pl R b) = ea R (pl R b) + b' := by unfold ea; rw [fe, nI_clamp (by omega)]; rfl
  have een : ∀ t, t < 16 → t ≠ pl R b → ea (eatR R b o) t = ea R t := fun t ht hn => by unfold ea; rw [fen t ht hn]
  have eeb : eb (eatR R b o) = eb R + b' := by
    unfold eb
    rw [eno]
    have hbw : ∀ x, bw (eatR R b o) x = bw R x := fun x => by unfold bw; rw [fo' x 1 (by decide) (Or.inr ⟨by decide, by decide⟩)]
    have s1 := sN_one (f := fun x => if og R x 4 = 3 then bw R x else 0) (g := fun x => if og (eatR R b o) x 4 = 3 then bw (eatR R b o) x else 0) (i := o) (no R) ho (fun x hx hn => by
      show (if og (eatR R b o) x 4 = 3 then bw (eatR R b o) x else 0) = if og R x 4 = 3 then bw R x else 0
      rw [hbw x, fo' x 4 (by decide) (Or.inl hn)])
    rw [e4, hbw o, if_pos rfl, if_neg (n3 c2 (by decide)), ebw] at s1
    exact s1
  refine ⟨g.1.move n5 enb (ei 7 (by omega) (by omega) (by omega) (by omega) (by omega) (by omega) (by omega)) (fun d hd => fbn d 3 hd (by decide) (Or.inr (by decide))) (fun d hd => ?_) (fun t ht => ?_) ?_, ⟨⟨fun x hx => ?_, ⟨by rw [f5, eeb], fun t ht => ?_, ?_⟩⟩, ?_⟩, g.2.2.same n5 (fun i hi => ei i (by unfold Ky at hi; omega) (by unfold Ky at hi; omega) (by unfold Ky at hi; omega) (by unfold Ky at hi; omega) (by unfold Ky at hi; omega) (by unfold Ky at hi; omega) (by unfold Ky at hi; omega))⟩
  · by_cases e : d = b
    · subst e; rw [f4, ec, fbn d 5 hd (by decide) (Or.inr (by decide)), ed d hd]; exact ⟨rfl, (g.1.2.1 d hd).2⟩
    · rw [fbn d 4 hd (by decide) (Or.inl e), fbn d 5 hd (by decide) (Or.inl e), ecn d hd e, ed d hd]; exact g.1.2.1 d hd
  · by_cases e : t = pl R b
    · rw [e, fu, eu]
    · rw [fun' t ht e, eun t ht e]; exact g.1.2.2.1 t ht
  · have s1 := sN_one (f := fun d => cl R d + dt R d) (g := fun d => cl (eatR R b o) d + dt (eatR R b o) d) (i := b) (nb R) hb (fun d hd hn => show cl (eatR R b o) d + dt (eatR R b o) d = cl R d + dt R d by rw [ecn d hd hn, ed d hd])
    have s2 := sN_one (f := us R) (g := us (eatR R b o)) (i := pl R b) 16 hp (fun t ht hn => eun t ht hn)
    rw [ec, ed b hb] at s1
    rw [eu] at s2
    have h1 := sN_mem (f := fun d => cl R d + dt R d) _ hb
    have h2 : cl R b + dt R b ≤ sN (fun d => cl R d + dt R d) (nb R) := h1
    omega
  · rw [eno] at hx
    by_cases e : x = o
    · subst e
      unfold OK1 alive
      rw [e4, fo' x 1 (by decide) (Or.inr ⟨by decide, by decide⟩), fo' x 2 (by decide) (Or.inr ⟨by decide, by decide⟩), fo' x 3 (by decide) (Or.inr ⟨by decide, by decide⟩), fo' x 6 (by decide) (Or.inr ⟨by decide, by decide⟩), fo' x 7 (by decide) (Or.inr ⟨by decide, by decide⟩)]
      exact ⟨b', u', l, d', a1, a2, a3, a4, a5, a6, a7, a8, fun e => absurd e (by decide), fun e => absurd e (by decide), fun _ => a11 (Or.inl c2), fun e => absurd e (by decide)⟩
    · exact (g.2.1.1.1 x hx).same (fun f hf _ _ _ => fo' x f hf (Or.inl e))
  · by_cases e : t = pl R b
    · rw [e, fe, ee]
    · rw [fen t ht e, een t ht e]; exact g.2.1.1.2.2.1 t ht
  · have s2 := sN_one (f := ea R) (g := ea (eatR R b o)) (i := pl R b) 16 hp (fun t ht hn => een t ht hn)
    rw [ee] at s2
    have := g.2.1.1.2.2.2
    rw [eeb]
    omega
  · rw [ei 0 (by omega) (by omega) (by omega) (by omega) (by omega) (by omega) (by omega)]; exact g.2.1.2
theorem gd_er (g : Gd P m R) (w : WF T R) (hb : b < nb R) (ho : o < no R) : Gd P m (er b o R) := by
  unfold er
  split
  · rename_i hc
    exact gd_eat g w hb ho hc
  · exact g
theorem gd_sv (g : Gd P m R) (w : WF T R) : Gd P m (svR R) := by
  have n5 := w.nb5
  unfold svR
  refine (fo_inv (P := fun a => WF T a ∧ a 2 = R 2 ∧ a 3 = R 3 ∧ Gd P m a) ⟨w, rfl, rfl, g⟩ (fun k hk a ha => ?_)).2.2.2
  refine fo_inv (P := fun a => WF T a ∧ a 2 = R 2 ∧ a 3 = R 3 ∧ Gd P m a) ha (fun o ho x hx => ?_)
  have hk' : k < nb x := by unfold nb at hk ⊢; rw [hx.2.1]; exact hk
  have ho' : o < no x := by unfold no at ho ⊢; rw [hx.2.2.1]; exact ho
  obtain ⟨q1, -, -, q2, q3⟩ := er_w hx.1 hk' ho'
  exact ⟨q1, q2.trans hx.2.1, q3.trans hx.2.2.1, gd_er hx.2.2.2 hx.1 hk' ho'⟩
/-- expiries: order by order, those behind have deadlines to come -/
theorem ex_x (hx : x ≠ o) (hf : f < 9) : og (exR o R) x f = og R x f := by
  have := aX_x (R := R) (o := o) hx hf
  unfold exR
  split
  · exact this
  · rfl
theorem ex_i (h : i < 107 + 9 * o ∨ 107 + 9 * o + 9 ≤ i) (h4 : i ≠ 4) (h6 : i ≠ 6) : exR o R i = R i := by
  have := aX_i (R := R) (o := o) h h4 h6
  unfold exR
  split
  · exact this
  · rfl
theorem ok_ex (g : OK1 m R o) (h0 : R 0 = nI m) (hm : m ≤ 10000) : OK1 (m + 1) (exR o R) o := by
  obtain ⟨b', u', l, d', a1, a2, a3, a4, a5, a6, a7, a8, a9, a10, a11, a12⟩ := g
  unfold exR
  split
  · show OK1 (m + 1) (aX R o) o
    unfold OK1 alive
    rw [aX_4, aX_f R o (f := 1) (by decide) (by decide) (by decide), aX_f R o (f := 2) (by decide) (by decide) (by decide), aX_f R o (f := 3) (by decide) (by decide) (by decide), aX_f R o (f := 6) (by decide) (by decide) (by decide), aX_f R o (f := 7) (by decide) (by decide) (by decide)]
    exact ⟨b', u', l, d', a1, a2, a3, a4, a5, a6, a7, a8, fun e => absurd e (by decide), fun e => absurd e (by decide), fun e => by rcases e with e | e <;> exact absurd e (by decide), fun e => absurd e (by decide)⟩
  · rename_i hc
    refine ⟨b', u', l, d', a1, a2, a3, a4, a5, a6, a7, a8, a9, a10, a11, fun e => ?_⟩
    have h1 := a12 e
    have h2 : ¬ d' = m := fun e2 => hc ⟨e, by rw [a8, h0, e2]⟩
    omega
theorem ge_ex (g : GE R) : GE (exR o R) := by
  have en : no (exR o R) = no R := by unfold no; rw [ex_i (by omega) (by decide) (by decide)]
  refine g.same (eb_same en (fun x hx => ?_)) (ex_i (by omega) (by decide) (by decide)) (fun t ht => ex_i (by omega) (by omega) (by omega))
  by_cases e : x = o
  · subst e
    have h1 := aX_f R x (f := 1) (by decide) (by decide) (by decide)
    have h4 := aX_4 R x
    unfold exR
    split
    · rename_i hc
      refine ⟨h1, fun e => absurd e (n3 h4 (by decide)), fun e => ?_⟩
      have := hc.1
      rw [al3 e] at this
      cases this
    · exact ⟨rfl, Iff.rfl⟩
  · rw [ex_x e (by decide), ex_x e (by decide)]
    exact ⟨rfl, Iff.rfl⟩
theorem gd_exAll (g : Gd P m R) (w : WF T R) (hm : m ≤ 10000) : ∀ k, k ≤ no R → (∀ x, x < no R → x < k → OK1 (m + 1) (fo (fun o a => exR o a) k R) x) ∧ (∀ x, x < no R → k ≤ x → OK1 m (fo (fun o a => exR o a) k R) x) ∧ GE (fo (fun o a => exR o a) k R) ∧ (∀ i, i < 107 → i ≠ 4 → i ≠ 6 → fo (fun o a => exR o a) k R i = R i) := by
  intro k
  induction k with
  | zero => intro _; exact ⟨fun x _ h => absurd h (Nat.not_lt_zero _), fun x hx _ => g.2.1.1.1 x hx, g.2.1.1.2, fun _ _ _ _ => rfl⟩
  | succ k ih =>
    intro hk
    obtain ⟨i1, i2, i3, i4⟩ := ih (by omega)
    show (∀ x, x < no R → x < k + 1 → OK1 (m + 1) (exR k (fo (fun o a => exR o a) k R)) x) ∧ (∀ x, x < no R → k + 1 ≤ x → OK1 m (exR k (fo (fun o a => exR o a) k R)) x) ∧ GE (exR k (fo (fun o a => exR o a) k R)) ∧ (∀ i, i < 107 → i ≠ 4 → i ≠ 6 → exR k (fo (fun o a => exR o a) k R) i = R i)
    refine ⟨fun x hx h => ?_, fun x hx h => (i2 x hx (by omega)).same (fun f hf _ _ _ => ex_x (by omega) hf), ge_ex i3, fun i h1 h2 h3 => by rw [ex_i (by omega) h2 h3]; exact i4 i h1 h2 h3⟩
    by_cases e : x = k
    · subst e
      exact ok_ex (i2 x hx (Nat.le_refl _)) (by rw [i4 0 (by decide) (by decide) (by decide)]; exact g.2.1.2) hm
    · exact (i1 x hx (by omega)).same (fun f hf _ _ _ => ex_x e hf)
theorem gd_pmR (g : Gd P m R) (w : WF T R) (hm : m ≤ 10000) : Gd P (m + 1) (pmR R) := by
  have n5 := w.nb5
  obtain ⟨R1, R2, R3, h1, h2, h3, h4, w1, w2, w3, -⟩ := min_st w
  have g1 : Gd P m R1 := by
    rw [h1]
    refine (fo_inv (P := fun a => WF T a ∧ a 2 = R 2 ∧ Gd P m a) ⟨w, rfl, g⟩ (fun k hk a ha => ?_)).2.2
    have hk' : k < nb a := by unfold nb at hk ⊢; rw [ha.2.1]; exact hk
    exact ⟨stM_w ha.1 hk', (stM_i (Or.inl (by decide)) (by omega)).trans ha.2.1, gd_st ha.2.2 ha.1 hk'⟩
  have g2 : Gd P m R2 := by
    rw [h2]
    have n5' := w1.nb5
    refine (fo_inv (P := fun a => WF T a ∧ a 2 = R1 2 ∧ Gd P m a) ⟨w1, rfl, g1⟩ (fun k hk a ha => ?_)).2.2
    have hk' : k < nb a := by unfold nb at hk ⊢; rw [ha.2.1]; exact hk
    exact ⟨wf_pull ha.1 hk', ((sm_pl (by omega)) 2 (Or.inl rfl)).trans ha.2.1, gd_pl ha.2.2 ha.1 hk'⟩
  have g3 : Gd P m R3 := by rw [h3]; exact gd_sv g2 w2
  obtain ⟨i1, i2, i3, i4⟩ := gd_exAll g3 w3 hm (no R3) (Nat.le_refl _)
  have n53 := w3.nb5
  have hsm : Sm R3 (fo (fun o a => exR o a) (no R3) R3) := fo_inv (P := fun a => Sm R3 a) (Sm.refl R3) (fun k hk a ha => ha.trans sm_ex)
  rw [h4]
  have u0' : ∀ i, i ≠ 0 → upd (fo (fun o a => exR o a) (no R3) R3) 0 (fo (fun o a => exR o a) (no R3) R3 0 + 1) i = fo (fun o a => exR o a) (no R3) R3 i := fun i hi => up_n hi
  refine ⟨g3.1.same n53 (fun i hi => ?_), ⟨⟨fun x hx => ?_, ?_⟩, ?_⟩, g3.2.2.same n53 (hsm.up (nks (by decide) (by decide)))⟩
  · rw [u0' i (by unfold Kp at hi; omega)]
    exact i4 i (by unfold Kp at hi; omega) (by unfold Kp at hi; omega) (by unfold Kp at hi; omega)
  · have en : no (upd (fo (fun o a => exR o a) (no R3) R3) 0 (fo (fun o a => exR o a) (no R3) R3 0 + 1)) = no R3 := congrArg Int32.toNatClampNeg ((u0' 3 (by decide)).trans (i4 3 (by decide) (by decide) (by decide)))
    rw [en] at hx
    exact (i1 x hx hx).same (fun f hf _ _ _ => u0' _ (by omega))
  · exact i3.same (eb_same (congrArg Int32.toNatClampNeg (u0' 3 (by decide))) (fun x hx => by
      rw [show og (upd (fo (fun o a => exR o a) (no R3) R3) 0 (fo (fun o a => exR o a) (no R3) R3 0 + 1)) x 1 = og (fo (fun o a => exR o a) (no R3) R3) x 1 from u0' _ (by omega), show og (upd (fo (fun o a => exR o a) (no R3) R3) 0 (fo (fun o a => exR o a) (no R3) R3 0 + 1)) x 4 = og (fo (fun o a => exR o a) (no R3) R3) x 4 from u0' _ (by omega)]
      exact ⟨rfl, Iff.rfl⟩)) (u0' 5 (by decide)) (fun t ht => u0' _ (by omega))
  · show upd _ 0 _ 0 = _
    rw [up_s, i4 0 (by decide) (by decide) (by decide), g3.2.1.2, nI_1]
theorem gd_pm (g : Gd P m R) (w : WF T R) (hm : m < 10000) : Gd P (m + 1) (pm R) := by
  unfold pm
  rw [if_neg (fun e => by rw [g.2.1.2] at e; have := nI_inj (a := m) (b := 10000) (by omega) (by decide) e; omega)]
  exact gd_pmR g w (by omega)
theorem gd_pmN (g : Gd P m R) (w : WF T R) : ∀ n, m + n ≤ 10000 → Gd P (m + n) (pmN n R) := by
  intro n
  induction n with
  | zero => intro _; exact g
  | succ n ih => intro h; exact gd_pm (m := m + n) (ih (by omega)) (pmN_w w n).1 (by omega)
end GOOD3
