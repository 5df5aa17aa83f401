/-! orders are served: the class goes by orders, the model by barges -/
theorem fo_comm {α : Type} {P : α → Prop} {g : α → α} {h : Nat → α → α} : ∀ N, (∀ j, j < N → ∀ x, P x → P (h j x) ∧ g (h j x) = h j (g x)) → ∀ x, P x → P (fo h N x) ∧ g (fo h N x) = fo h N (g x) := by
  intro N
  induction N with
  | zero => intro _ x hx; exact ⟨hx, rfl⟩
  | succ N ih =>
    intro hh x hx
    obtain ⟨i1, i2⟩ := ih (fun j hj => hh j (by omega)) x hx
    obtain ⟨k1, k2⟩ := hh N (by omega) _ i1
    exact ⟨k1, by show g (h N (fo h N x)) = h N (fo h N (g x)); rw [k2, i2]⟩
theorem fo_P {α : Type} {P : α → Prop} {h : Nat → α → α} {N : Nat} (hh : ∀ j, j < N → ∀ x, P x → P (h j x)) {x : α} (hx : P x) : P (fo h N x) := by
  induction N with
  | zero => exact hx
  | succ N ih => exact hh N (by omega) _ (ih (fun j hj => hh j (by omega)))
theorem fo_fuse {α : Type} {P : α → Prop} {g h : Nat → α → α} : ∀ N, (∀ j, j < N → ∀ x, P x → P (h j x) ∧ P (g j x)) → (∀ i j, i < N → j < i → ∀ x, P x → g i (h j x) = h j (g i x)) → ∀ x, P x → fo (fun o a => h o (g o a)) N x = fo h N (fo g N x) := by
  intro N
  induction N with
  | zero => intro _ _ x _; rfl
  | succ N ih =>
    intro hP hc x hx
    show h N (g N (fo (fun o a => h o (g o a)) N x)) = h N (fo h N (g N (fo g N x)))
    rw [ih (fun j hj => hP j (by omega)) (fun i j hi => hc i j (by omega)) x hx]
    have pg : P (fo g N x) := fo_P (fun j hj x hx => (hP j (by omega) x hx).2) hx
    rw [(fo_comm (P := P) (g := g N) N (fun j hj x hx => ⟨(hP j (by omega) x hx).1, hc N j (by omega) hj x hx⟩) _ pg).2]
theorem fo_swap {α : Type} {P : α → Prop} {f : Nat → Nat → α → α} (N : Nat) : ∀ m, (∀ b o, b < m → o < N → ∀ x, P x → P (f b o x)) → (∀ b d o q, b < m → d < m → o < N → q < N → b ≠ d → o ≠ q → ∀ x, P x → f b o (f d q x) = f d q (f b o x)) → ∀ x, P x → fo (fun b a => fo (fun o a => f b o a) N a) m x = fo (fun o a => fo (fun b a => f b o a) m a) N x := by
  intro m
  induction m with
  | zero =>
    intro _ _ x _
    have : ∀ n, fo (fun _ (a : α) => a) n x = x := fun n => by
      induction n with
      | zero => rfl
      | succ n ih => exact ih
    exact (this N).symm
  | succ m ih =>
    intro hP hc x hx
    show fo (fun o a => f m o a) N (fo (fun b a => fo (fun o a => f b o a) N a) m x) = fo (fun o a => f m o (fo (fun b a => f b o a) m a)) N x
    rw [ih (fun b o hb => hP b o (by omega)) (fun b d o q hb hd => hc b d o q (by omega) (by omega)) x hx]
    refine (fo_fuse (P := P) (g := fun o a => fo (fun b a => f b o a) m a) (h := fun o a => f m o a) N (fun j hj x hx => ⟨hP m j (by omega) hj x hx, fo_P (fun b hb x hx => hP b j (by omega) hj x hx) hx⟩) (fun i j hi hji x hx => ?_) x hx).symm
    exact (fo_comm (P := P) (g := f m j) m (fun b hb x hx => ⟨hP b i (by omega) hi x hx, hc m b j i (by omega) (by omega) (by omega) hi (by omega) (by omega) x hx⟩) x hx).2.symm
def canE (R : Nat → Int32) (b o : Nat) : Bool := !inL R b && ((bel R o (nI b) 2 && decide (og R o 0 = bg R b 0)) && decide (¬ bg R b 4 < og R o 1))
def dE (R : Nat → Int32) (b o i : Nat) : Int32 := if i = 72 + 7 * b + 4 then -(og R o 1) else if i = 40 + pl R b then og R o 1 else if i = 56 + pl R b then og R o 1 else if i = 5 then og R o 1 else if i = 4 then prc R o else 0
def eatR (R : Nat → Int32) (b o : Nat) : Nat → Int32 := fun i => if i = 107 + 9 * o + 4 then 3 else if i = 107 + 9 * o + 5 then -1 else R i + dE R b o i
def er (b o : Nat) (R : Nat → Int32) : Nat → Int32 := if canE R b o then eatR R b o else R
section SERVE
variable {i : Nat} {M M' : TM} {r c T k : Nat} {R R' : Nat → Int32} {K : Int32 → TM → Prop} {KV : TM → Prop} {p q u s v : Int32} {b d o f j a t x : Nat} {l : List Nat}
theorem eat_n (h1 : i ≠ 107 + 9 * o + 4) (h2 : i ≠ 107 + 9 * o + 5) (h3 : i ≠ 72 + 7 * b + 4) (h4 : i ≠ 40 + pl R b) (h5 : i ≠ 56 + pl R b) (h6 : i ≠ 5) (h7 : i ≠ 4) : eatR R b o i = R i := by
  unfold eatR dE
  rw [if_neg h1, if_neg h2, if_neg h3, if_neg h4, if_neg h5, if_neg h6, if_neg h7, Int32.add_zero]
theorem eat_d (h1 : i ≠ 107 + 9 * o + 4) (h2 : i ≠ 107 + 9 * o + 5) : eatR R b o i = R i + dE R b o i := by
  unfold eatR
  rw [if_neg h1, if_neg h2]
theorem eat_o4 : eatR R b o (107 + 9 * o + 4) = 3 := if_pos rfl
theorem eat_o5 : eatR R b o (107 + 9 * o + 5) = -1 := by
  unfold eatR
  rw [if_neg (by omega), if_pos rfl]
theorem eat_og (hb : b < 5) (hp : pl R b < 16) (h : x ≠ o ∨ f ≠ 4 ∧ f ≠ 5) (hf : f < 9) : og (eatR R b o) x f = og R x f := eat_n (by omega) (by omega) (by omega) (by omega) (by omega) (by omega) (by omega)
theorem eat_bg (ho : o < 30) (hd : d < 5) (hp : pl R b < 16) (h : d ≠ b ∨ f ≠ 4) (hf : f < 7) : bg (eatR R b o) d f = bg R d f := eat_n (by omega) (by omega) (by omega) (by omega) (by omega) (by omega) (by omega)
theorem dE_eat (hb : b < 5) (hd : d < 5) (hx : x < 30) (ho : o < 30) (hp : pl R d < 16) (hne : o ≠ x) : dE (eatR R d x) b o = dE R b o := by
  funext i
  unfold dE prc
  rw [eat_og hd hp (Or.inl hne) (by decide), eat_og hd hp (Or.inl hne) (by decide), show pl (eatR R d x) b = pl R b by unfold pl; rw [eat_bg hx hb hp (Or.inr (by decide)) (by decide)]]
theorem canE_eat (hb : b < 5) (hd : d < 5) (hx : x < 30) (ho : o < 30) (hp : pl R d < 16) (hne : o ≠ x) (hbd : b ≠ d) : canE (eatR R d x) b o = canE R b o := by
  unfold canE inL bel
  rw [eat_og hd hp (Or.inl hne) (by decide), eat_og hd hp (Or.inl hne) (by decide), eat_og hd hp (Or.inl hne) (by decide), eat_og hd hp (Or.inl hne) (by decide), eat_bg hx hb hp (Or.inr (by decide)) (by decide), eat_bg hx hb hp (Or.inr (by decide)) (by decide), eat_bg hx hb hp (Or.inl hbd) (by decide)]
theorem eat_eat (hb : b < 5) (hd : d < 5) (hx : x < 30) (ho : o < 30) (hpb : pl R b < 16) (hp : pl R d < 16) (hne : o ≠ x) : eatR (eatR R d x) b o = eatR (eatR R b o) d x := by
  funext i
  have e1 : eatR (eatR R d x) b o i = if i = 107 + 9 * o + 4 then 3 else if i = 107 + 9 * o + 5 then -1 else eatR R d x i + dE R b o i := by
    rw [← dE_eat hb hd hx ho hp hne]; rfl
  have e2 : eatR (eatR R b o) d x i = if i = 107 + 9 * x + 4 then 3 else if i = 107 + 9 * x + 5 then -1 else eatR R b o i + dE R d x i := by
    rw [← dE_eat hd hb ho hx hpb (fun e => hne e.symm)]; rfl
  have z : ∀ b o, b < 5 → pl R b < 16 → 107 ≤ i → dE R b o i = 0 := fun b o h1 h2 h3 => by
    unfold dE
    rw [if_neg (by omega), if_neg (by omega), if_neg (by omega), if_neg (by omega), if_neg (by omega)]
  rw [e1, e2]
  by_cases h1 : i = 107 + 9 * o + 4
  · rw [if_pos h1, if_neg (by omega), if_neg (by omega), h1, eat_o4, ← h1, z d x hd hp (by omega), Int32.add_zero]
  · by_cases h2 : i = 107 + 9 * o + 5
    · rw [if_neg h1, if_pos h2, if_neg (by omega), if_neg (by omega), h2, eat_o5, ← h2, z d x hd hp (by omega), Int32.add_zero]
    · rw [if_neg h1, if_neg h2]
      by_cases h3 : i = 107 + 9 * x + 4
      · rw [if_pos h3, h3, eat_o4, ← h3, z b o hb hpb (by omega), Int32.add_zero]
      · by_cases h4 : i = 107 + 9 * x + 5
        · rw [if_neg h3, if_pos h4, h4, eat_o5, ← h4, z b o hb hpb (by omega), Int32.add_zero]
        · rw [if_neg h3, if_neg h4, eat_d h3 h4, eat_d h1 h2, Int32.add_assoc, Int32.add_comm (dE R d x i), ← Int32.add_assoc]
def PE (R : Nat → Int32) : Prop := ∀ b, b < 5 → pl R b < 16
theorem er_PE (hb : b < 5) (ho : o < 30) (h : PE R) : PE (er b o R) := by
  unfold er
  split
  · intro d hd
    unfold pl
    rw [eat_bg ho hd (h b hb) (Or.inr (by decide)) (by decide)]
    exact h d hd
  · exact h
theorem er_comm (hb : b < 5) (hd : d < 5) (ho : o < 30) (hx : x < 30) (hbd : b ≠ d) (hox : o ≠ x) (h : PE R) : er b o (er d x R) = er d x (er b o R) := by
  unfold er
  by_cases c1 : canE R d x = true
  · by_cases c2 : canE R b o = true
    · rw [if_pos c1, if_pos c2, if_pos (by rw [canE_eat hb hd hx ho (h d hd) hox hbd]; exact c2), if_pos (by rw [canE_eat hd hb ho hx (h b hb) (fun e => hox e.symm) (fun e => hbd e.symm)]; exact c1)]
      exact eat_eat hb hd hx ho (h b hb) (h d hd) hox
    · rw [if_pos c1, if_neg c2, if_neg (by rw [canE_eat hb hd hx ho (h d hd) hox hbd]; exact c2), if_pos c1]
  · by_cases c2 : canE R b o = true
    · rw [if_neg c1, if_pos c2, if_neg (by rw [canE_eat hd hb ho hx (h b hb) (fun e => hox e.symm) (fun e => hbd e.symm)]; exact c1)]
    · rw [if_neg c1, if_neg c2, if_neg c1]
theorem canE_1 (h : canE R b o = true) : inL R b = false ∧ og R o 4 = 2 ∧ og R o 5 = nI b ∧ og R o 0 = bg R b 0 ∧ ¬ bg R b 4 < og R o 1 := by
  unfold canE at h
  rw [Bool.and_eq_true, Bool.and_eq_true, Bool.and_eq_true, decide_eq_true_eq, decide_eq_true_eq] at h
  obtain ⟨h1, ⟨h2, h3⟩, h4⟩ := h
  refine ⟨?_, (bel1 h2).1, (bel1 h2).2, h3, h4⟩
  cases e : inL R b with
  | false => rfl
  | true => rw [e] at h1; cases h1
theorem wf_eat (w : WF T R) (hb : b < nb R) (ho : o < no R) (hc : canE R b o = true) : WF T (eatR R b o) := by
  have n5 := w.nb5
  have n16 := w.np16
  have n30 := w.no30
  obtain ⟨c1, c2, c3, c4, c5⟩ := canE_1 hc
  have hp := (w.2.1 b hb).ePl
  have hp2 := hp.2
  have sI : ∀ i, i < 72 → i ≠ 4 → i ≠ 5 → (i < 40 ∨ i ≠ 40 + pl R b ∧ i ≠ 56 + pl R b) → eatR R b o i = R i := fun i h1 h2 h3 h4 => eat_n (by omega) (by omega) (by omega) (by omega) (by omega) h3 h2
  have nb' : nb (eatR R b o) = nb R := by unfold nb; rw [sI 2 (by decide) (by decide) (by decide) (by omega)]
  have no' : no (eatR R b o) = no R := by unfold no; rw [sI 3 (by decide) (by decide) (by decide) (by omega)]
  have np' : np (eatR R b o) = np R := by unfold np; rw [sI 1 (by decide) (by decide) (by decide) (by omega)]
  have hog : ∀ x f, (x ≠ o ∨ f ≠ 4 ∧ f ≠ 5) → f < 9 → og (eatR R b o) x f = og R x f := fun x f h hf => eat_og (by omega) (by omega) h hf
  have hbg : ∀ d f, d < 5 → (d ≠ b ∨ f ≠ 4) → f < 7 → bg (eatR R b o) d f = bg R d f := fun d f hd h hf => eat_bg (by omega) hd (by omega) h hf
  have o4 : og (eatR R b o) o 4 = 3 := eat_o4
  have o5 : og (eatR R b o) o 5 = -1 := eat_o5
  have bl : ∀ x q s, x ≠ o → bel (eatR R b o) x q s = bel R x q s := fun x q s hx => by unfold bel; rw [hog x 4 (Or.inl hx) (by decide), hog x 5 (Or.inl hx) (by decide)]
  obtain ⟨⟨⟨⟨a1, a2⟩, ⟨a3, a4⟩, a5, a6⟩, a7, a8, a9, a10, a11, a12, a13⟩, b1, b2, b3, b4, b5⟩ := id w
  refine ⟨⟨⟨⟨by rw [sI 1 (by decide) (by decide) (by decide) (by omega), np']; exact a1, by rw [np']; exact a2⟩, ⟨by rw [sI 2 (by decide) (by decide) (by decide) (by omega), nb']; exact a3, by rw [nb']; exact a4⟩, by rw [sI 3 (by decide) (by decide) (by decide) (by omega), no']; exact a5, by rw [no']; exact a6⟩, by rw [np']; exact a7, trivial, by rw [sI 0 (by decide) (by decide) (by decide) (by omega)]; exact a9, by rw [sI 8 (by decide) (by decide) (by decide) (by omega)]; exact a10, ?_, fun j hj => by rw [sI (10 + j) (by omega) (by omega) (by omega) (by omega)]; exact a12 j hj, fun j hj1 hj2 => ?_⟩, fun d hd => ?_, fun x hx => ?_, ?_, fun d hd => ?_, fun x y hx hy hx4 hy4 he => ?_⟩
  · rw [sI 6 (by decide) (by decide) (by decide) (by omega), a11]
    unfold cIn
    rw [no']
    refine congrArg nI (cn_congr _ (fun k hk => ?_))
    by_cases e : k = o
    · subst e; rw [o4, c2]; decide
    · rw [hog k 4 (Or.inl e) (by decide)]
  · rw [np'] at hj1
    rw [sI (40 + j) (by omega) (by omega) (by omega) (by omega), sI (56 + j) (by omega) (by omega) (by omega) (by omega)]
    exact a13 j hj1 hj2
  · rw [nb'] at hd
    obtain ⟨p, t, v, q1, q2, q3, q4, q5, q6, q7⟩ := b1 d hd
    exact ⟨p, t, v, by rw [np']; exact q1, by rw [np']; exact q2, q3, by rw [hbg d 0 (by omega) (Or.inr (by decide)) (by decide)]; exact q4, by rw [hbg d 1 (by omega) (Or.inr (by decide)) (by decide)]; exact q5, by rw [hbg d 6 (by omega) (Or.inr (by decide)) (by decide)]; exact q6, q7⟩
  · rw [no'] at hx
    by_cases e : x = o
    · subst e
      obtain ⟨p, s, q1, q2, q3, q4, q5, q6, q7, q8⟩ := b2 x hx
      exact ⟨p, 3, by rw [np']; exact q1, by decide, by rw [hog x 0 (Or.inr (by decide)) (by decide)]; exact q3, o4, by rw [hog x 6 (Or.inr (by decide)) (by decide)]; exact q5, fun h => by omega, fun _ => o5, fun h => by omega⟩
    · exact (b2 x hx).congr (sI 1 (by decide) (by decide) (by decide) (by omega)) (sI 2 (by decide) (by decide) (by decide) (by omega)) (by rw [sI 8 (by decide) (by decide) (by decide) (by omega)]; exact Nat.le_refl _) (fun f hf => hog x f (Or.inl e) hf)
  · exact (wl_same w (sI 2 (by decide) (by decide) (by decide) (by omega)) (fun d hd => ⟨hbg d 0 (by omega) (Or.inr (by decide)) (by decide), hbg d 1 (by omega) (Or.inr (by decide)) (by decide), hbg d 6 (by omega) (Or.inr (by decide)) (by decide)⟩)).1
  · rw [nb'] at hd
    refine Nat.le_trans ?_ (b4 d hd)
    unfold held
    rw [no']
    refine cn_mono _ (fun k hk h => ?_)
    by_cases e : k = o
    · subst e
      unfold bel at h
      rw [o4] at h
      simp at h
    · rw [bl k _ _ e, bl k _ _ e] at h; exact h
  · rw [no'] at hx hy
    have ex : x ≠ o := fun e => by subst e; rw [o4] at hx4; exact absurd hx4 (by decide)
    have ey : y ≠ o := fun e => by subst e; rw [o4] at hy4; exact absurd hy4 (by decide)
    rw [hog x 4 (Or.inl ex) (by decide)] at hx4
    rw [hog y 4 (Or.inl ey) (by decide)] at hy4
    rw [hog x 8 (Or.inl ex) (by decide), hog y 8 (Or.inl ey) (by decide)] at he
    exact b5 x y hx hy hx4 hy4 he
theorem eat_cIn (w : WF T R) (hb : b < nb R) (ho : o < no R) (hc : canE R b o = true) : cIn (eatR R b o) 3 = cIn R 3 + 1 := by
  have n5 := w.nb5
  have n16 := w.np16
  have hp := (w.2.1 b hb).ePl.2
  obtain ⟨c1, c2, c3, c4, c5⟩ := canE_1 hc
  have no' : no (eatR R b o) = no R := by unfold no; rw [eat_n (i := 3) (by omega) (by omega) (by omega) (by omega) (by omega) (by omega) (by omega)]
  unfold cIn
  rw [no']
  refine cn_off _ o ho (fun k hk hne => ?_) (by rw [c2]; decide) (by rw [show og (eatR R b o) o 4 = 3 from eat_o4]; decide)
  rw [show og (eatR R b o) k 4 = og R k 4 from eat_og (by omega) (by omega) (Or.inl hne) (by decide)]
theorem er_w (w : WF T R) (hb : b < nb R) (ho : o < no R) : WF T (er b o R) ∧ (er b o R) 0 = R 0 ∧ (er b o R) 1 = R 1 ∧ (er b o R) 2 = R 2 ∧ (er b o R) 3 = R 3 := by
  have n5 := w.nb5
  have n16 := w.np16
  have hp := (w.2.1 b hb).ePl.2
  unfold er
  split
  · rename_i hc
    exact ⟨wf_eat w hb ho hc, eat_n (by omega) (by omega) (by omega) (by omega) (by omega) (by omega) (by omega), eat_n (by omega) (by omega) (by omega) (by omega) (by omega) (by omega) (by omega), eat_n (by omega) (by omega) (by omega) (by omega) (by omega) (by omega) (by omega), eat_n (by omega) (by omega) (by omega) (by omega) (by omega) (by omega) (by omega)⟩
  · exact ⟨w, rfl, rfl, rfl, rfl⟩
end SERVE
