/-! p65: every row that is read out of a text is good -/
section RGOOD
variable {T : Nat → Nat} {n P a b c d k what i j : Nat} {s : PS} {R R' : Nat → Int32} {x : PR}
def Z1 (R : Nat → Int32) : Prop := R 0 = 0 ∧ R 5 = 0 ∧ R 7 = 0 ∧ ∀ i, 40 ≤ i → i < 72 → R i = 0
def Z2 (R : Nat → Int32) : Prop := R 0 = 0 ∧ R 5 = 0 ∧ ∀ i, 40 ≤ i → i < 72 → R i = 0
theorem z1_sec (h : IS T n x) (hw : what = 10 ∨ what = 25) (z : Z1 x.2) : Z1 (pSec T n what x).2 := by
  obtain ⟨s, R⟩ := x
  have w : WF 0 R := h.2.1
  have n16 := w.np16
  have n3 := w.np3
  by_cases hz : pe (sec3 T n what (s, R)) = 0
  · rw [pSec_eq, if_pos hz]
    have hv := (pLv_rng (T := T) (lo := 0) (hi := np R - 2) (s := pAdv T n s) (Nat.zero_le _)).2
    have hv' : secV T n (s, R) ≤ np R - 2 := hv
    obtain ⟨z0, z5, z7, z4⟩ : Z1 R := z
    exact ⟨(up_n (by omega)).trans z0, (up_n (by omega)).trans z5, (up_n (by omega)).trans z7, fun i h1 h2 => (up_n (by omega)).trans (z4 i h1 h2)⟩
  · have : pSec T n what (s, R) = (sec3 T n what (s, R), R) := by rw [pSec_eq, if_neg hz]
    rw [this]
    exact z
theorem z1_Zr {v : Int32} : Z1 (Zr R v) := ⟨Zr_i (by decide) (by decide), Zr_i (by decide) (by decide), Zr_i (by decide) (by decide), fun i h1 h2 => Zr_i (by omega) (by omega)⟩
theorem z1_1 (w : Ws T n s) : IS T n (pCan1 T n (s, R)) ∧ Z1 (pCan1 T n (s, R)).2 := by
  have := lp_inv (P := fun y : PR => IS T n y ∧ Z1 y.2) (g := cS T) (h := gS T n) (fun x _ hx => by
    obtain ⟨s, R⟩ := x
    unfold gS
    split
    · exact ⟨IS_sec (Or.inl rfl) hx.1, z1_sec hx.1 (Or.inl rfl) hx.2⟩
    · exact ⟨IS_sec (Or.inr rfl) hx.1, z1_sec hx.1 (Or.inr rfl) hx.2⟩) 501 (pCan0 T n (s, R)) ⟨IS_0 w, z1_Zr⟩
  unfold pCan1
  exact this
def JB (T : Nat → Nat) (n : Nat) (x : PR) : Prop := IB T n x ∧ NLb x.2 ∧ Z2 x.2 ∧ ∃ P, P ≤ 99 * nb x.2 ∧ GA P x.2
theorem ga_0 (z : Z1 R) (h0 : nb R = 0) : GA 0 R := by
  have u0 : ∀ t, t < 16 → us R t = 0 := fun t ht => by unfold us; rw [z.2.2.2 _ (by omega) (by omega)]; rfl
  refine ⟨fun b hb => by omega, fun b hb => by omega, fun t ht => by rw [u0 t ht]; exact z.2.2.2 _ (by omega) (by omega), ?_, z.2.2.1, by decide⟩
  rw [h0, sN_zero 16 u0]
  rfl
theorem jb_bar (h : JB T n x) : JB T n (pBar T n x) := by
  obtain ⟨hI, hN, hZ, P, hP, hG⟩ := h
  refine ⟨IB_b hI, nl_bar hI hN, ?_⟩
  obtain ⟨s, R⟩ := x
  have w : WF 0 R := hI.2.1
  have hF : Fresh R := hI.2.2.1
  have n5 := w.nb5
  replace hP : P ≤ 99 * nb R := hP
  replace hG : GA P R := hG
  replace hZ : Z2 R := hZ
  by_cases hz : pe (bar6 T n (s, R)) = 0
  · rw [pBar_eq, if_pos hz]
    have ok : nb R < 5 := (bar_ok hz).2.2.1
    have r3 := pLv_rng (T := T) (lo := 0) (hi := 99) (s := bar3 T n (s, R)) (Nat.zero_le _)
    have r4 := pLv_rng (T := T) (lo := 0) (hi := 99) (s := bar4 T n (s, R)) (Nat.zero_le _)
    generalize pLv T 0 99 (bar3 T n (s, R)) = f3 at r3 ⊢
    generalize pLv T 0 99 (bar4 T n (s, R)) = f4 at r4 ⊢
    generalize nI (pLv T 0 (np R - 1) (bar1 T n (s, R))) = g1
    generalize nI (pLv T 1 9 (bar2 T n (s, R))) = g2
    show Z2 (aBarge R g1 g2 (nI f3) (nI f4)) ∧ ∃ P, P ≤ 99 * nb (aBarge R g1 g2 (nI f3) (nI f4)) ∧ GA P (aBarge R g1 g2 (nI f3) (nI f4))
    have enb := aB_nb (p := g1) (h' := g2) (f' := nI f3) (w' := nI f4) w ok
    have ef := aB_f R g1 g2 (nI f3) (nI f4)
    have eo : ∀ i, i < 72 → i ≠ 2 → i ≠ 7 → aBarge R g1 g2 (nI f3) (nI f4) i = R i := fun i h1 h2 h7 => aB_i (Or.inl h1) h2 h7 ok
    have e7 : aBarge R g1 g2 (nI f3) (nI f4) 7 = R 7 + nI f4 := up_s _ _ _
    have hF5 := (hF _ (Nat.le_refl _) ok).1
    have e5n : bg (aBarge R g1 g2 (nI f3) (nI f4)) (nb R) 5 = 0 := by rw [ef.2.2.2.2.2.1]; exact hF5
    have ecl : ∀ b, b < nb R → cl (aBarge R g1 g2 (nI f3) (nI f4)) b = cl R b ∧ dt (aBarge R g1 g2 (nI f3) (nI f4)) b = dt R b := fun b hb => by
      unfold cl dt
      rw [aB_b (by omega) (by decide) ok, aB_b (by omega) (by decide) ok]
      exact ⟨rfl, rfl⟩
    have ecn : cl (aBarge R g1 g2 (nI f3) (nI f4)) (nb R) = f4 ∧ dt (aBarge R g1 g2 (nI f3) (nI f4)) (nb R) = 0 := by
      unfold cl dt
      rw [ef.2.2.2.2.1, e5n, nI_clamp (by omega)]
      exact ⟨rfl, rfl⟩
    have eu : ∀ t, t < 16 → us (aBarge R g1 g2 (nI f3) (nI f4)) t = us R t := fun t ht => by unfold us; rw [eo _ (by omega) (by omega) (by omega)]
    refine ⟨⟨(eo 0 (by decide) (by decide) (by decide)).trans hZ.1, (eo 5 (by decide) (by decide) (by decide)).trans hZ.2.1, fun i h1 h2 => (eo i h2 (by omega) (by omega)).trans (hZ.2.2 i h1 h2)⟩, P + f4, by rw [enb]; omega, ?_⟩
    obtain ⟨g3, g4, g5, g6, g7, g8⟩ := hG
    refine ⟨fun b hb => ?_, fun b hb => ?_, fun t ht => ?_, ?_, ?_, by omega⟩
    · rw [enb] at hb
      by_cases e : b = nb R
      · subst e
        exact ⟨f3, r3.2, ef.2.2.2.1⟩
      · rw [aB_b e (by decide) ok]
        exact g3 b (by omega)
    · rw [enb] at hb
      by_cases e : b = nb R
      · subst e
        rw [ecn.1, ecn.2]
        exact ⟨ef.2.2.2.2.1, e5n⟩
      · rw [(ecl b (by omega)).1, (ecl b (by omega)).2, aB_b e (by decide) ok, aB_b e (by decide) ok]
        exact g4 b (by omega)
    · rw [eu t ht, eo _ (by omega) (by omega) (by omega)]
      exact g5 t ht
    · rw [enb, sN_congr 16 eu]
      show sN _ (nb R) + (cl (aBarge R g1 g2 (nI f3) (nI f4)) (nb R) + dt (aBarge R g1 g2 (nI f3) (nI f4)) (nb R)) + sN (us R) 16 = P + f4
      rw [ecn.1, ecn.2, sN_congr (g := fun b => cl R b + dt R b) (nb R) (fun b hb => by rw [(ecl b hb).1, (ecl b hb).2])]
      omega
    · rw [e7, g7, nI_add]
  · rw [pBar_bad hz]
    exact ⟨hZ, P, hP, hG⟩
theorem jb_2 (w : Ws T n s) : JB T n (pCan2 T n (s, R)) := by
  have z := z1_1 (R := R) w
  have h1 : JB T n (pCan1 T n (s, R)) := ⟨IB_1 w, nl_s _ z.1, ⟨z.2.1, z.2.2.1, z.2.2.2.2⟩, 0, Nat.zero_le _, ga_0 z.2 z.1.2.2.2.2.2⟩
  have := lp_inv (P := JB T n) (g := cB T) (h := pBar T n) (fun x _ hx => jb_bar hx) 501 (pBar T n (pCan1 T n (s, R))) (jb_bar h1)
  unfold pCan2
  exact this
theorem jb_gd (h : JB T n x) : ∃ P, Gd P 0 x.2 := by
  obtain ⟨hI, hN, hZ, P, hP, hG⟩ := h
  obtain ⟨s, R⟩ := x
  replace hN : NLb R := hN
  replace hZ : Z2 R := hZ
  have o0 : no R = 0 := hI.2.2.2
  have e0 : eb R = 0 := by unfold eb; rw [o0]; rfl
  have a0 : ∀ t, t < 16 → ea R t = 0 := fun t ht => by unfold ea; rw [hZ.2.2 _ (by omega) (by omega)]; rfl
  refine ⟨P, hG, ⟨⟨fun o ho => by have ho' : o < no R := ho; omega, ?_, fun t ht => ?_, ?_⟩, hZ.1⟩, fun b j h1 h2 h3 => ?_⟩
  · show R 5 = nI (eb R)
    rw [e0]; exact hZ.2.1
  · show R (56 + t) = nI (ea R t)
    rw [a0 t ht]
    exact hZ.2.2 _ (by omega) (by omega)
  · show sN (ea R) 16 = eb R
    rw [e0]
    exact sN_zero 16 a0
  · have h3' : inL R b = true := h3
    unfold inL at h3'
    rw [hN b h1] at h3'
    exact absurd h3' (by decide)
theorem gd_ord (h : IO T n x) (hg : ∃ P, Gd P 0 x.2) : ∃ P, Gd P 0 (pOrd T n x).2 := by
  obtain ⟨s, R⟩ := x
  obtain ⟨P, g⟩ := hg
  have w : WF 0 R := h.2.1
  by_cases hz : pe (ord6 T n (s, R)) = 0
  · rw [pOrd_eq, if_pos hz]
    have r2 := pLv_rng (T := T) (lo := 1) (hi := 4) (s := ord2 T n (s, R)) (by decide)
    have r3 := pLv_rng (T := T) (lo := 1) (hi := 6) (s := ord3 T n (s, R)) (by decide)
    have r4 := pLv_rng (T := T) (lo := 1) (hi := 500) (s := ord4 T n (s, R)) (by decide)
    exact ⟨P, gd_order g w (by decide) rfl r2.1 r2.2 rfl r3.1 r3.2 rfl r4.1 r4.2⟩
  · rw [pOrd_bad hz]
    exact ⟨P, g⟩
theorem can_good (w : Ws T n s) (R : Nat → Int32) : ∃ P, Gd P 0 (pCan T n (s, R)).2 := by
  have := lp_inv (P := fun y : PR => IO T n y ∧ ∃ P, Gd P 0 y.2) (g := cO) (h := pOrd T n) (fun x _ hx => ⟨IO_o hx.1, gd_ord hx.1 hx.2⟩) 501 (pCan2 T n (s, R)) ⟨IO_2 w, jb_gd (jb_2 w)⟩
  unfold pCan
  exact this.2
end RGOOD
