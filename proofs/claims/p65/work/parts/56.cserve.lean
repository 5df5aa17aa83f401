/-! serving, the class's; orders expire -/
def exR (o : Nat) (R : Nat → Int32) : Nat → Int32 := if alive R o = true ∧ og R o 3 = R 0 then upd (upd (sO (sO R o 4 4) o 5 (-1)) 4 (R 4 - 2)) 6 (R 6 + 1) else R
section CSERVE
variable {i : Nat} {M M' : TM} {r c T k : Nat} {R R' : Nat → Int32} {K : Int32 → TM → Prop} {KV : TM → Prop} {p q u s v : Int32} {b d o f j a t x : Nat} {l : List Nat}
theorem eat_4 (hp : pl R b < 16) : eatR R b o 4 = R 4 + prc R o := by
  rw [eat_d (by omega) (by omega)]
  unfold dE
  rw [if_neg (by omega), if_neg (by omega), if_neg (by omega), if_neg (by omega), if_pos rfl]
theorem eat_5 (hp : pl R b < 16) : eatR R b o 5 = R 5 + og R o 1 := by
  rw [eat_d (by omega) (by omega)]
  unfold dE
  rw [if_neg (by omega), if_neg (by omega), if_neg (by omega), if_pos rfl]
theorem eat_u (hp : pl R b < 16) : eatR R b o (40 + pl R b) = R (40 + pl R b) + og R o 1 := by
  rw [eat_d (by omega) (by omega)]
  unfold dE
  rw [if_neg (by omega), if_pos rfl]
theorem eat_w (hp : pl R b < 16) : eatR R b o (56 + pl R b) = R (56 + pl R b) + og R o 1 := by
  rw [eat_d (by omega) (by omega)]
  unfold dE
  rw [if_neg (by omega), if_neg (by omega), if_pos rfl]
theorem eat_b4 (hb : b < 5) : bg (eatR R b o) b 4 = bg R b 4 + -(og R o 1) := by
  unfold bg
  rw [eat_d (by omega) (by omega)]
  unfold dE
  rw [if_pos rfl]
theorem c_serve (w : WF T R) (h : RelC c M R) (hb : b < nb R) (ho : o < no R) (e4 : og R o 4 = 2) (e5 : og R o 5 = nI b) (hK : ∀ M', FrC c M M' → RelC c M' (er b o R) → KV M') : f_X2_serve c (c + 21 + 2 * b) (c + 31 + o) M KV := by
  unfold f_X2_serve
  have n5 := w.nb5
  have n16 := w.np16
  have n30 := w.no30
  have hO := h.2.2.2.2.2 o ho
  have hB := h.2.2.2.1 b hb
  have hp := (w.2.1 b hb).ePl
  have hp2 := hp.2
  have hbel : bel R o (nI b) 2 = true := by unfold bel; rw [decide_eq_true e4, decide_eq_true e5]; rfl
  unfold er canE at hK
  rw [hbel] at hK
  refine c_inLock w h hb ?_
  refine bT (fun c1 => ?_) (fun c1 => ?_)
  · rw [if_neg (by rw [c1]; simp)] at hK
    exact hK M (FrC.refl _ _) h
  rw [hB.1, hO.1, hB.2.2.2.2.2.1, hO.2.1]
  refine ⟨fun c2 => ?_, fun c2 => ⟨fun c3 => ?_, fun c3 => ?_⟩⟩
  · rw [if_neg (by rw [decide_eq_false (fun e => c2 e.symm)]; simp)] at hK
    exact hK M (FrC.refl _ _) h
  · rw [if_neg (by rw [show decide (¬ bg R b 4 < og R o 1) = false from decide_eq_false (fun h => h c3)]; simp)] at hK
    exact hK M (FrC.refl _ _) h
  rw [if_pos (by rw [c1, decide_eq_true c2.symm, decide_eq_true c3]; rfl)] at hK
  have hc : canE R b o = true := by unfold canE; rw [c1, hbel, decide_eq_true c2.symm, decide_eq_true c3]; rfl
  rw [← c2, hp.1]
  refine c_hasPlace w h ?_
  rw [inR_nI hp.2 (by omega)]
  refine bT (fun _ => ?_) (fun c => by cases c)
  rw [hB.2.2.2.2.2.1, hO.2.1]
  intro M11 e11
  refine ⟨vp_in_nI (by omega) (by decide), vp_in_nI (by omega) (by decide), ?_⟩
  intro M14 e14
  refine ⟨vp_in_nI (by omega) (by decide), vp_in_nI (by omega) (by decide), ?_⟩
  intro M17 e17 M18 e18 M19 e19
  unfold f_X6_worth f_X6_finish
  intro M22 e22 M23 e23 M24 e24
  rw [nI_clamp (by omega)] at e14 e17
  have hu := h.2.2.1 (pl R b) (by omega)
  have hs := h.1
  have v11 : M11 (c + 2) (pl R b) = R (40 + pl R b) ∧ M11 (c + 31 + o) 1 = og R o 1 := by rw [e11, u2_n (by omega), u2_n (by omega)]; exact ⟨hu.1, hO.2.1⟩
  rw [v11.1, v11.2] at e14
  have v14 : M14 (c + 3) (pl R b) = R (56 + pl R b) ∧ M14 (c + 31 + o) 1 = og R o 1 := by rw [e14, u2_n (by omega), u2_n (by omega), v11.2, e11, u2_n (by omega)]; exact ⟨hu.2, rfl⟩
  rw [v14.1, v14.2] at e17
  have v17 : M17 c 11 = R 5 ∧ M17 (c + 31 + o) 1 = og R o 1 := by rw [e17, u2_n (by omega), u2_n (by omega), v14.2, e14, u2_n (by omega), e11, u2_n (by omega)]; exact ⟨hs.2.2.2.2.2.2.1, rfl⟩
  rw [v17.1, v17.2] at e18
  have v18 : M18 c 12 = nI (cIn R 3) := by rw [e18, u2_f (by decide), e17, u2_n (by omega), e14, u2_n (by omega), e11, u2_n (by omega)]; exact hs.2.2.2.2.2.2.2.1
  rw [v18] at e19
  have v19 : M19 c 9 = R 4 ∧ M19 (c + 31 + o) 1 = og R o 1 ∧ M19 (c + 31 + o) 2 = og R o 2 := by
    rw [e19, u2_f (by decide), u2_n (by omega), e18, u2_f (by decide), u2_n (by omega), v17.2, e17, u2_n (by omega), u2_n (by omega), e14, u2_n (by omega), u2_n (by omega), e11, u2_n (by omega), u2_n (by omega)]
    exact ⟨hs.2.2.2.2.1, rfl, hO.2.2.1⟩
  rw [v19.1, v19.2.1, v19.2.2] at e22
  subst e24; subst e23; subst e22; subst e19; subst e18; subst e17; subst e14; subst e11
  refine hK _ (fun i hi => by simp (disch := omega) only [uR_n]) ?_
  have sI : ∀ i, i < 72 → i ≠ 4 → i ≠ 5 → (i < 40 ∨ i ≠ 40 + pl R b ∧ i ≠ 56 + pl R b) → eatR R b o i = R i := fun i h1 h2 h3 h4 => eat_n (by omega) (by omega) (by omega) (by omega) (by omega) h3 h2
  have nb' : nb (eatR R b o) = nb R := by unfold nb; rw [sI 2 (by decide) (by decide) (by decide) (by omega)]
  have no' : no (eatR R b o) = no R := by unfold no; rw [sI 3 (by decide) (by decide) (by decide) (by omega)]
  have hog : ∀ x f, (x ≠ o ∨ f ≠ 4 ∧ f ≠ 5) → f < 9 → og (eatR R b o) x f = og R x f := fun x f h hf => eat_og (by omega) (by omega) h hf
  have hbg : ∀ d f, d < 5 → (d ≠ b ∨ f ≠ 4) → f < 7 → bg (eatR R b o) d f = bg R d f := fun d f hd h hf => eat_bg (by omega) hd (by omega) h hf
  have o4 : og (eatR R b o) o 4 = 3 := eat_o4
  have o5 : og (eatR R b o) o 5 = -1 := eat_o5
  have ww := (wl_same w (R' := eatR R b o) (sI 2 (by decide) (by decide) (by decide) (by omega)) (fun d hd => ⟨hbg d 0 (by omega) (Or.inr (by decide)) (by decide), hbg d 1 (by omega) (Or.inr (by decide)) (by decide), hbg d 6 (by omega) (Or.inr (by decide)) (by decide)⟩)).2
  refine ⟨?_, fun j hj => (h.2.1 j hj).congr (by simp (disch := omega) only [uR_n]) (sI _ (by omega) (by omega) (by omega) (by omega)) (sI _ (by omega) (by omega) (by omega) (by omega)) (ww _), fun j hj => ?_, fun d hd => ?_, fun d hd => ?_, fun x hx => ?_⟩
  · unfold Sc at hs ⊢
    rw [sI 0 (by decide) (by decide) (by decide) (by omega), sI 1 (by decide) (by decide) (by decide) (by omega), sI 2 (by decide) (by decide) (by decide) (by omega), sI 3 (by decide) (by decide) (by decide) (by omega), eat_4 (by omega), eat_5 (by omega), sI 6 (by decide) (by decide) (by decide) (by omega), sI 7 (by decide) (by decide) (by decide) (by omega), eat_cIn w hb ho hc, ← nI_1]
    simp (disch := omega) only [uR_s, uR_n, up_s, up_n]
    exact ⟨hs.1, hs.2.1, hs.2.2.1, hs.2.2.2.1, rfl, hs.2.2.2.2.2.1, trivial, trivial, hs.2.2.2.2.2.2.2.2⟩
  · have hj' := h.2.2.1 j hj
    by_cases e : j = pl R b
    · subst e
      rw [eat_u (by omega), eat_w (by omega)]
      simp (disch := omega) only [uR_s, uR_n, up_s, up_n]
      exact ⟨trivial, trivial⟩
    · rw [sI (40 + j) (by omega) (by omega) (by omega) (by omega), sI (56 + j) (by omega) (by omega) (by omega) (by omega)]
      simp (disch := omega) only [uR_s, uR_n, up_s, up_n]
      exact hj'
  · rw [nb'] at hd
    by_cases e : d = b
    · subst e
      unfold Ba at hB ⊢
      rw [eat_b4 (by omega), hbg d 0 (by omega) (Or.inr (by decide)) (by decide), hbg d 1 (by omega) (Or.inr (by decide)) (by decide), hbg d 2 (by omega) (Or.inr (by decide)) (by decide), hbg d 3 (by omega) (Or.inr (by decide)) (by decide), hbg d 5 (by omega) (Or.inr (by decide)) (by decide), hbg d 6 (by omega) (Or.inr (by decide)) (by decide), ← Int32.sub_eq_add_neg]
      simp (disch := omega) only [uR_s, uR_n, up_s, up_n]
      exact ⟨hB.1, hB.2.1, hB.2.2.1, hB.2.2.2.1, hB.2.2.2.2.1, trivial, hB.2.2.2.2.2.2⟩
    · exact (h.2.2.2.1 d hd).congr (by simp (disch := omega) only [uR_n]) (fun f hf => hbg d f (by omega) (Or.inl e) hf)
  · rw [nb'] at hd
    refine (h.2.2.2.2.1 d hd).congr ?_ (by simp (disch := omega) only [uR_n]) (fun l hl => hl.same no' (fun x hx => ?_) (fun x hx _ => hog x 8 (Or.inr (by decide)) (by decide)))
    · by_cases e : d = b
      · subst e; simp (disch := omega) only [uR_s, uR_n, up_n]
      · simp (disch := omega) only [uR_n]
    · by_cases e : x = o
      · subst e
        unfold bel
        rw [o4, e4]
        simp
      · unfold bel
        rw [hog x 4 (Or.inl e) (by decide), hog x 5 (Or.inl e) (by decide)]
  · rw [no'] at hx
    by_cases e : x = o
    · subst e
      unfold Or at hO ⊢
      rw [o4, o5, hog x 0 (Or.inr (by decide)) (by decide), hog x 1 (Or.inr (by decide)) (by decide), hog x 2 (Or.inr (by decide)) (by decide), hog x 3 (Or.inr (by decide)) (by decide), hog x 6 (Or.inr (by decide)) (by decide), hog x 7 (Or.inr (by decide)) (by decide)]
      simp (disch := omega) only [uR_s, uR_n, up_s, up_n]
      exact ⟨hO.1, hO.2.1, hO.2.2.1, hO.2.2.2.1, hO.2.2.2.2.1, hO.2.2.2.2.2.1, trivial, trivial⟩
    · exact (h.2.2.2.2.2 x hx).congr (by simp (disch := omega) only [uR_n]) (fun f hf => hog x f (Or.inl e) hf)
/-- an order is served by its barge alone -/
theorem er_skip (h : og R o 4 ≠ 2 ∨ og R o 5 ≠ nI b) : er b o R = R := by
  unfold er
  rw [if_neg]
  intro hc
  obtain ⟨c1, c2, c3, c4, c5⟩ := canE_1 hc
  rcases h with h | h
  · exact h c2
  · exact h c3
theorem fo_only0 (h : og R o 4 ≠ 2) : ∀ n, fo (fun d a => er d o a) n R = R := by
  intro n
  induction n with
  | zero => rfl
  | succ n ih => show er n o _ = _; rw [ih]; exact er_skip (Or.inl h)
theorem fo_only (h4 : og R o 4 = 2) (h5 : og R o 5 = nI b) (hb : b < 5) : ∀ n, n ≤ 5 → fo (fun d a => er d o a) n R = if b < n then er b o R else R := by
  intro n
  induction n with
  | zero => intro _; rfl
  | succ n ih =>
    intro hn
    show er n o _ = _
    rw [ih (by omega)]
    by_cases e : b < n
    · rw [if_pos e, if_pos (by omega)]
      refine er_skip ?_
      unfold er
      split
      · exact Or.inl (by rw [show og (eatR R b o) o 4 = 3 from eat_o4]; decide)
      · exact Or.inr (by rw [h5]; exact fun c => absurd (nI_inj (by omega) (by omega) c) (by omega))
    · rw [if_neg e]
      by_cases e2 : b = n
      · subst e2; rw [if_pos (by omega)]
      · rw [if_neg (by omega)]
        exact er_skip (Or.inr (by rw [h5]; exact fun c => absurd (nI_inj (by omega) (by omega) c) (by omega)))
theorem foN (w : WF T R) (m : Nat) (hm : m ≤ nb R) (ho : o < no R) : ∀ k, k ≤ m → WF T (fo (fun d a => er d o a) k R) ∧ fo (fun d a => er d o a) k R 0 = R 0 ∧ fo (fun d a => er d o a) k R 1 = R 1 ∧ fo (fun d a => er d o a) k R 2 = R 2 ∧ fo (fun d a => er d o a) k R 3 = R 3 := by
  intro k
  induction k with
  | zero => intro _; exact ⟨w, rfl, rfl, rfl, rfl⟩
  | succ k ih =>
    intro hk
    obtain ⟨i1, i0, i2, i3, i4⟩ := ih (by omega)
    obtain ⟨g1, g0, g2, g3, g4⟩ := er_w (b := k) (o := o) i1 (by unfold nb at hm ⊢; rw [i3]; omega) (by unfold no at ho ⊢; rw [i4]; omega)
    exact ⟨g1, g0.trans i0, g2.trans i2, g3.trans i3, g4.trans i4⟩
theorem foO (w : WF T R) : ∀ k, k ≤ no R → WF T (fo (fun o a => fo (fun b a => er b o a) (nb R) a) k R) ∧ fo (fun o a => fo (fun b a => er b o a) (nb R) a) k R 0 = R 0 ∧ fo (fun o a => fo (fun b a => er b o a) (nb R) a) k R 1 = R 1 ∧ fo (fun o a => fo (fun b a => er b o a) (nb R) a) k R 2 = R 2 ∧ fo (fun o a => fo (fun b a => er b o a) (nb R) a) k R 3 = R 3 := by
  intro k
  induction k with
  | zero => intro _; exact ⟨w, rfl, rfl, rfl, rfl⟩
  | succ k ih =>
    intro hk
    obtain ⟨i1, i0, i2, i3, i4⟩ := ih (by omega)
    obtain ⟨g1, g0, g2, g3, g4⟩ := foN (o := k) i1 (nb R) (by show nb R ≤ (fo (fun o a => fo (fun b a => er b o a) (nb R) a) k R 2).toNatClampNeg; rw [i3]; exact Nat.le_refl _) (by unfold no at hk ⊢; rw [i4]; omega) (nb R) (Nat.le_refl _)
    exact ⟨g1, g0.trans i0, g2.trans i2, g3.trans i3, g4.trans i4⟩
theorem PE_of (w : WF T R) : fo (fun o a => fo (fun b a => er b o a) (nb R) a) (no R) R = svR R := by
  have n5 := w.nb5
  have n16 := w.np16
  have n30 := w.no30
  unfold svR
  refine (fo_swap (P := fun S => ∀ b, b < nb R → pl S b < 16) (f := er) (no R) (nb R) (fun b o hb ho x hx d hd => ?_) (fun b d o q hb hd ho hq h1 h2 x hx => ?_) R (fun b hb => by have := (w.2.1 b hb).ePl.2; omega)).symm
  · unfold er
    split
    · unfold pl
      rw [eat_bg (by omega) (by omega) (hx b hb) (Or.inr (by decide)) (by decide)]
      exact hx d hd
    · exact hx d hd
  · unfold er
    by_cases c1 : canE x d q = true
    · by_cases c2 : canE x b o = true
      · rw [if_pos c1, if_pos c2, if_pos (by rw [canE_eat (by omega) (by omega) (by omega) (by omega) (hx d hd) h2 h1]; exact c2), if_pos (by rw [canE_eat (by omega) (by omega) (by omega) (by omega) (hx b hb) (fun e => h2 e.symm) (fun e => h1 e.symm)]; exact c1)]
        exact eat_eat (by omega) (by omega) (by omega) (by omega) (hx b hb) (hx d hd) h2
      · rw [if_pos c1, if_neg c2, if_neg (by rw [canE_eat (by omega) (by omega) (by omega) (by omega) (hx d hd) h2 h1]; exact c2), if_pos c1]
    · by_cases c2 : canE x b o = true
      · rw [if_neg c1, if_pos c2, if_neg (by rw [canE_eat (by omega) (by omega) (by omega) (by omega) (hx b hb) (fun e => h2 e.symm) (fun e => h1 e.symm)]; exact c1)]
      · rw [if_neg c1, if_neg c2, if_neg c1]
theorem c_serveAll (w : WF T R) (h : RelC c M R) (hK : ∀ M', FrC c M M' → RelC c M' (svR R) → KV M') : f_X2_serveOrders c M KV := by
  unfold f_X2_serveOrders
  have n5 := w.nb5
  have n30 := w.no30
  refine ⟨_, inv_loop (fun n (s : TM) k => f_X2_serveOrders_L2 c KV n (nI k) s) (fun k s => FrC c M s ∧ RelC c s (fo (fun o a => fo (fun b a => er b o a) (nb R) a) k R)) (no R) (fun n s hs => ?_) (fun n s k hk hs hL => ?_) (no R) 0 M (Nat.zero_add _) ⟨FrC.refl _ _, h⟩⟩
  · obtain ⟨w', f0, f1, f2, f3⟩ := foO w (no R) (Nat.le_refl _)
    rw [f_X2_serveOrders_L2, hs.2.1.2.2.1, f3, w.1.1.2.2.1]
    refine cT' (nI_le (Nat.le_refl _) (by omega)) (hK s hs.1 ?_)
    rw [← PE_of w]
    exact hs.2
  · obtain ⟨w', f0, f1, f2, f3⟩ := foO w k (by omega)
    obtain ⟨hs1, hs2⟩ := hs
    rw [f_X2_serveOrders_L2, hs2.1.2.2.1, f3, w.1.1.2.2.1]
    have hk' : k < no (fo (fun o a => fo (fun b a => er b o a) (nb R) a) k R) := by unfold no; rw [f3]; exact hk
    have nb' : nb (fo (fun o a => fo (fun b a => er b o a) (nb R) a) k R) = nb R := by show (fo (fun o a => fo (fun b a => er b o a) (nb R) a) k R 2).toNatClampNeg = _; rw [f2]; rfl
    have hO := hs2.2.2.2.2.2 k hk'
    refine cN' (nI_ge hk (by omega)) ⟨vp_in_nI (by omega) (by decide), vp_in_nI (by omega) (by decide), ?_⟩
    rw [nI_clamp (by omega), nI_1, hO.2.2.2.2.2.2.1, hO.2.2.2.2.2.2.2]
    have e : fo (fun o a => fo (fun b a => er b o a) (nb R) a) (k + 1) R = fo (fun b a => er b k a) (nb R) (fo (fun o a => fo (fun b a => er b o a) (nb R) a) k R) := rfl
    refine ⟨WO.st w' hk', fun c1 => hL s ⟨hs1, by rw [e, fo_only0 c1]; exact hs2⟩, fun c1 => ?_⟩
    obtain ⟨b, hb, e5⟩ := WO.hb w' hk' (by unfold isHeld; rw [decide_eq_true c1, Bool.or_true])
    rw [nb'] at hb
    rw [e5]
    refine c_hasBarge w' hs2 ?_
    rw [nb', inR_nI hb (by omega)]
    refine bF (fun _ => ⟨vp_in_nI (by omega) (by decide), vp_in_nI (by omega) (by decide), ?_⟩) (fun c => by cases c)
    rw [nI_clamp (by omega)]
    refine c_serve w' hs2 (by rw [nb']; exact hb) hk' c1 e5 (fun M' f' h' => hL M' ⟨hs1.trans f', ?_⟩)
    rw [e, fo_only c1 e5 (by omega) _ n5, if_pos hb]
    exact h'
end CSERVE
