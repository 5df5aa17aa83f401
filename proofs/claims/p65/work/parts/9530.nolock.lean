/-! p65: no barge of a text is in a lock -/
def NLb (R : Nat → Int32) : Prop := ∀ b, b < nb R → bg R b 6 = 0
section LOAD1
variable {c' : Bool} {i : Nat} {M M1 M' S S' : TM} {T : Nat → Nat} {U t V : Nat} {K : TM → Prop} {KI KL : Int32 → TM → Prop} {KV : TM → Prop} {X : String → TM → Prop} {p q u v z : Int32} {R R' : Nat → Int32} {x : PR} {s : PS} {a b c d e f j k m x' h nx ci di r o n what : Nat}
/-- no barge of a text is in a lock -/
theorem NLb.lk (g : NLb R) : LK R := by
  intro b j h1 h2 h3
  unfold inL at h3
  rw [g b h1] at h3
  exact absurd h3 (by decide)
theorem nl_bar (h : IB T n x) (g : NLb x.2) : NLb (pBar T n x).2 := by
  obtain ⟨s, R⟩ := x
  replace g : NLb R := g
  by_cases hz : pe (bar6 T n (s, R)) = 0
  · rw [pBar_eq, if_pos hz]
    have ok := (bar_ok hz).2.2.1
    have w : WF 0 R := h.2.1
    have hf : Fresh R := h.2.2.1
    intro b hb
    dsimp only at hb ⊢
    rw [aB_nb w ok] at hb
    by_cases e : b = nb R
    · subst e
      rw [(aB_f R _ _ _ _).2.2.2.2.2.2]
      exact (hf _ (Nat.le_refl _) ok).2
    · rw [aB_b e (by decide) ok]
      exact g b (by omega)
  · rw [pBar_bad hz]
    exact g
theorem nl_ord (h : IO T n x) (g : NLb x.2) : NLb (pOrd T n x).2 := by
  obtain ⟨s, R⟩ := x
  replace g : NLb R := g
  have w : WF 0 R := h.2.1
  have n5 := w.nb5
  by_cases hz : pe (ord6 T n (s, R)) = 0
  · rw [pOrd_eq, if_pos hz]
    have e2 : ∀ a b c d : Int32, nb (aOrder R a b c d) = nb R := fun _ _ _ _ => by unfold nb; rw [aO_s (by decide) (by decide)]
    intro b hb
    dsimp only at hb ⊢
    rw [e2] at hb
    rw [aO_b (by omega) (by decide)]
    exact g b hb
  · rw [pOrd_bad hz]
    exact g
theorem nl_s (x : PR) (h : IS T n x) : NLb x.2 := fun b hb => by
  have h0 : nb x.2 = 0 := h.2.2.2.2.2
  rw [h0] at hb
  exact absurd hb (Nat.not_lt_zero _)
theorem nl_2 (w : Ws T n s) : IB T n (pCan2 T n (s, R)) ∧ NLb (pCan2 T n (s, R)).2 := by
  have := lp_inv (P := fun y : PR => IB T n y ∧ NLb y.2) (g := cB T) (h := pBar T n) (fun x _ hx => ⟨IB_b hx.1, nl_bar hx.1 hx.2⟩) 501 (pBar T n (pCan1 T n (s, R))) ⟨IB_b (IB_1 w), nl_bar (IB_1 w) (nl_s _ (IS_1 w))⟩
  unfold pCan2
  exact this
theorem nl_3 (w : Ws T n s) : IO T n (pCan T n (s, R)) ∧ NLb (pCan T n (s, R)).2 := by
  have := lp_inv (P := fun y : PR => IO T n y ∧ NLb y.2) (g := cO) (h := pOrd T n) (fun x _ hx => ⟨IO_o hx.1, nl_ord hx.1 hx.2⟩) 501 (pCan2 T n (s, R)) ⟨IO_2 w, (nl_2 w).2⟩
  unfold pCan
  exact this
end LOAD1
