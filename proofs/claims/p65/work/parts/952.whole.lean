/-! p65: a text as the law builds it is read whole -/
def SecF (f : Nat → List Nat) : Prop := ∀ k, f k = [] ∨ (∃ v, 1 ≤ v ∧ v ≤ 9 ∧ f k = tx2 wLk k v) ∨ (∃ v, 1 ≤ v ∧ v ≤ 9 ∧ f k = tx2 wBr k v) ∨ ∃ v u, 1 ≤ v ∧ v ≤ 9 ∧ 1 ≤ u ∧ u ≤ 9 ∧ f k = tx2 wLk k v ++ tx2 wBr k u
def BarF (N : Nat) (f : Nat → List Nat) : Prop := ∀ k, ∃ i j u v, f k = tx4 wBa i j u v ∧ i < N ∧ 1 ≤ j ∧ j ≤ 9 ∧ u ≤ 99 ∧ v ≤ 99
def OrdF (N : Nat) (f : Nat → List Nat) : Prop := ∀ k, ∃ i j u v, f k = tx4 wOr i j u v ∧ i < N ∧ 1 ≤ j ∧ j ≤ 4 ∧ 1 ≤ u ∧ u ≤ 6 ∧ 1 ≤ v ∧ v < 100
def txAll (N nB nO : Nat) (fs fb fo : Nat → List Nat) : List Nat := wCa ++ 32 :: (dg N ++ 59 :: (catR fs 0 (N - 1) ++ (catR fb 0 nB ++ catR fo 0 nO)))
section TXT3
variable {T : Nat → Nat} {n p a e v c k what i j N nB nO : Nat} {l w : List Nat} {s : PS} {R R1 R' : Nat → Int32} {fs fb fo : Nat → List Nat}
theorem st0 (T : Nat → Nat) (n : Nat) : (0, 0, scB T n 0, scE T n 0, scK T n 0) = stp T n 0 0 := rfl
theorem lk_go (h : Sf T n p (tx2 wLk k v ++ l)) (hk : k + 2 ≤ np R) (hn : np R ≤ 16) (h1 : 1 ≤ v) (h9 : v ≤ 9) (hz : R (10 + k) = 0) (g : Nat) : lp (cS T) (gS T n) (g + 1) (stp T n a p, R) = lp (cS T) (gS T n) g (stp T n a (p + (tx2 wLk k v).length), upd R (10 + k) (nI v)) ∧ Sf T n (p + (tx2 wLk k v).length) l := by
  obtain ⟨s1, s2, s3⟩ := sec_go (a := a) (what := 10) h (by decide) (by decide) hk hn h1 h9 hz
  have hw : pWd T (stp T n a p) 10 = true := by
    rw [s1]
    rw [tx2_app] at h
    exact wd_is (w := wLk) h rfl (by decide)
  refine ⟨?_, s3⟩
  have hc : cS T (stp T n a p, R) = true := by
    show (pWd T (stp T n a p) 10 || pWd T (stp T n a p) 11) = true
    rw [hw]; rfl
  have hg : gS T n (stp T n a p, R) = pSec T n 10 (stp T n a p, R) := if_pos hw
  rw [lp_T hc, hg, s2]
theorem br_go (h : Sf T n p (tx2 wBr k v ++ l)) (hk : k + 2 ≤ np R) (hn : np R ≤ 16) (h1 : 1 ≤ v) (h9 : v ≤ 9) (hz : R (25 + k) = 0) (g : Nat) : lp (cS T) (gS T n) (g + 1) (stp T n a p, R) = lp (cS T) (gS T n) g (stp T n a (p + (tx2 wBr k v).length), upd R (25 + k) (nI v)) ∧ Sf T n (p + (tx2 wBr k v).length) l := by
  obtain ⟨s1, s2, s3⟩ := sec_go (a := a) (what := 25) h (by decide) (by decide) hk hn h1 h9 hz
  have hw : pWd T (stp T n a p) 11 = true := by
    rw [s1]
    rw [tx2_app] at h
    exact wd_is (w := wBr) h rfl (by decide)
  have hw' : pWd T (stp T n a p) 10 = false := by
    rw [s1]
    exact wd_not (by show p + 6 - p ≠ 4; omega)
  refine ⟨?_, s3⟩
  have hc : cS T (stp T n a p, R) = true := by
    show (pWd T (stp T n a p) 10 || pWd T (stp T n a p) 11) = true
    rw [hw, Bool.or_true]
  have hg : gS T n (stp T n a p, R) = pSec T n 25 (stp T n a p, R) := if_neg (by show ¬ pWd T (stp T n a p) 10 = true; rw [hw']; decide)
  rw [lp_T hc, hg, s2]
theorem secs_go (hf : SecF fs) (hl : ∀ q R', Sf T n q l → cS T (stp T n a q, R') = false) : ∀ m g k p R1, 2 * m < g → k + m + 1 = np R1 → np R1 ≤ 16 → (∀ j, k ≤ j → j < 15 → R1 (10 + j) = 0 ∧ R1 (25 + j) = 0) → Sf T n p (catR fs k m ++ l) → ∃ q R2, lp (cS T) (gS T n) g (stp T n a p, R1) = (stp T n a q, R2) ∧ Sf T n q l ∧ np R2 = np R1 := by
  intro m
  induction m with
  | zero =>
    intro g k p R1 hg hk hn hz h
    have h' : Sf T n p l := h
    exact ⟨p, R1, lp_F (hl p R1 h'), h', rfl⟩
  | succ m ih =>
    intro g k p R1 hg hk hn hz h
    have h' : Sf T n p (fs k ++ (catR fs (k + 1) m ++ l)) := by
      have e : catR fs k (m + 1) ++ l = fs k ++ (catR fs (k + 1) m ++ l) := by
        show (fs k ++ catR fs (k + 1) m) ++ l = _
        rw [List.append_assoc]
      rw [← e]; exact h
    obtain ⟨g', rfl⟩ : ∃ g', g = g' + 1 + 1 := ⟨g - 2, by omega⟩
    have z0 := hz k (Nat.le_refl _) (by omega)
    have npu : ∀ (R : Nat → Int32) (i : Nat) (x : Int32), 10 ≤ i → np (upd R i x) = np R := fun R i x hi => by unfold np; rw [up_n (by omega)]
    rcases hf k with e | ⟨v, v1, v9, e⟩ | ⟨v, v1, v9, e⟩ | ⟨v, u, v1, v9, u1, u9, e⟩
    · rw [e] at h'
      exact ih (g' + 1 + 1) (k + 1) p R1 (by omega) (by omega) hn (fun j hj => hz j (by omega)) h'
    · rw [e] at h'
      obtain ⟨q1, q2⟩ := lk_go (a := a) h' (by omega) hn v1 v9 z0.1 (g' + 1)
      have q3 := npu R1 (10 + k) (nI v) (by omega)
      obtain ⟨q, R2, r1, r2, r3⟩ := ih (g' + 1) (k + 1) _ (upd R1 (10 + k) (nI v)) (by omega) (by rw [q3]; omega) (by rw [q3]; exact hn) (fun j h1 h2 => ⟨(up_n (by omega)).trans (hz j (by omega) h2).1, (up_n (by omega)).trans (hz j (by omega) h2).2⟩) q2
      exact ⟨q, R2, by rw [q1, r1], r2, by rw [r3, q3]⟩
    · rw [e] at h'
      obtain ⟨q1, q2⟩ := br_go (a := a) h' (by omega) hn v1 v9 z0.2 (g' + 1)
      have q3 := npu R1 (25 + k) (nI v) (by omega)
      obtain ⟨q, R2, r1, r2, r3⟩ := ih (g' + 1) (k + 1) _ (upd R1 (25 + k) (nI v)) (by omega) (by rw [q3]; omega) (by rw [q3]; exact hn) (fun j h1 h2 => ⟨(up_n (by omega)).trans (hz j (by omega) h2).1, (up_n (by omega)).trans (hz j (by omega) h2).2⟩) q2
      exact ⟨q, R2, by rw [q1, r1], r2, by rw [r3, q3]⟩
    · rw [e, List.append_assoc] at h'
      obtain ⟨q1, q2⟩ := lk_go (a := a) h' (by omega) hn v1 v9 z0.1 (g' + 1)
      have q3 := npu R1 (10 + k) (nI v) (by omega)
      obtain ⟨p1, p2⟩ := br_go (a := a) (R := upd R1 (10 + k) (nI v)) q2 (by rw [q3]; omega) (by rw [q3]; exact hn) u1 u9 ((up_n (by omega)).trans z0.2) g'
      have p3 := npu (upd R1 (10 + k) (nI v)) (25 + k) (nI u) (by omega)
      obtain ⟨q, R2, r1, r2, r3⟩ := ih g' (k + 1) _ (upd (upd R1 (10 + k) (nI v)) (25 + k) (nI u)) (by omega) (by rw [p3, q3]; omega) (by rw [p3, q3]; exact hn) (fun j h1 h2 => ⟨((up_n (by omega)).trans (up_n (by omega))).trans (hz j (by omega) h2).1, ((up_n (by omega)).trans (up_n (by omega))).trans (hz j (by omega) h2).2⟩) p2
      exact ⟨q, R2, by rw [q1, p1, r1], r2, by rw [r3, p3, q3]⟩
theorem bars_go (hf : BarF N fb) (hl : ∀ q R', Sf T n q l → cB T (stp T n a q, R') = false) : ∀ m g k p R1, m < g → nb R1 + m ≤ 5 → (∃ U, WF U R1) → Fresh R1 → no R1 = 0 → np R1 = N → Sf T n p (catR fb k m ++ l) → ∃ q R2, lp (cB T) (pBar T n) g (stp T n a p, R1) = (stp T n a q, R2) ∧ Sf T n q l ∧ nb R2 = nb R1 + m := by
  intro m
  induction m with
  | zero =>
    intro g k p R1 hg h5 hw hF h0 hN h
    have h' : Sf T n p l := h
    exact ⟨p, R1, lp_F (hl p R1 h'), h', rfl⟩
  | succ m ih =>
    intro g k p R1 hg h5 hw hF h0 hN h
    obtain ⟨i, j, u, v, e, i1, j1, j2, u1, v1⟩ := hf k
    have h' : Sf T n p (tx4 wBa i j u v ++ (catR fb (k + 1) m ++ l)) := by
      have e' : catR fb k (m + 1) ++ l = tx4 wBa i j u v ++ (catR fb (k + 1) m ++ l) := by
        show (fb k ++ catR fb (k + 1) m) ++ l = _
        rw [List.append_assoc, e]
      rw [← e']; exact h
    obtain ⟨U, w1⟩ := hw
    have n16 := w1.np16
    obtain ⟨s1, s2, s3, s4⟩ := bar_go (a := a) (R := R1) h' (by omega) n16 j1 j2 u1 v1 (by omega)
    have enb := aB_nb (p := nI i) (h' := nI j) (f' := nI u) (w' := nI v) w1 (by omega)
    have eno := aB_no (p := nI i) (h' := nI j) (f' := nI u) (w' := nI v) (R := R1) (by omega)
    have enp : np (aBarge R1 (nI i) (nI j) (nI u) (nI v)) = np R1 := by unfold np; rw [aB_i (by omega) (by decide) (by decide) (by omega)]
    obtain ⟨g', rfl⟩ : ∃ g', g = g' + 1 := ⟨g - 1, by omega⟩
    obtain ⟨q, R2, q1, q2, q3⟩ := ih g' (k + 1) (p + (tx4 wBa i j u v).length) (aBarge R1 (nI i) (nI j) (nI u) (nI v)) (by omega) (by rw [enb]; omega) ⟨U, wf_barge w1 (by omega) h0 hF (by omega)⟩ (aB_Fresh w1 (by omega) hF) (by rw [eno]; exact h0) (by rw [enp]; exact hN) s4
    refine ⟨q, R2, ?_, q2, by rw [q3, enb]; omega⟩
    rw [lp_T (show cB T (stp T n a p, R1) = true from s2), s3]
    exact q1
theorem not_S {l : List Nat} (h : Sf T n p (wBa ++ 32 :: l)) : cS T (stp T n a p, R') = false := by
  rw [st_word h (by decide) (by decide) rfl]
  show (pWd T (0, a, p, p + wBa.length, 1) 10 || pWd T (0, a, p, p + wBa.length, 1) 11) = false
  rw [wd_not (by show p + 5 - p ≠ 4; omega), wd_not (by show p + 5 - p ≠ 6; omega)]
  rfl
theorem not_B {l : List Nat} (h : Sf T n p (wOr ++ 32 :: l)) : cB T (stp T n a p, R') = false := by
  rw [st_word h (by decide) (by decide) rfl]
  have := h.app.1 0 (by decide)
  rw [Nat.add_zero] at this
  exact wd_not0 (by decide) (by rw [this]; decide)
theorem not_B0 (h : Sf T n p []) : cB T (stp T n a p, R') = false := by
  rw [st_end h]
  rfl
/-- the whole text -/
theorem can_go (R : Nat → Int32) (h : Sf T n 0 (txAll N nB nO fs fb fo)) (n500 : n ≤ 500) (h3 : 3 ≤ N) (h16 : N ≤ 16) (hb1 : 1 ≤ nB) (hb5 : nB ≤ 5) (ho : nO ≤ 30) (hs : SecF fs) (hb : BarF N fb) (hO : OrdF N fo) : ∃ R3, pCan T n (stp T n 0 0, R) = ((0, 0, n, n, 0), R3) ∧ nb R3 = nB := by
  have ws : Ws T n (stp T n 0 0) := ⟨n500, show (0 : Nat) < 10 by decide, ⟨0, Nat.zero_le _, rfl, rfl, rfl⟩⟩
  unfold txAll at h
  have e0 : stp T n 0 0 = (0, 0, 0, 0 + 5, 1) := st_word h (by decide) (by decide) rfl
  have hw : pWd T (stp T n 0 0) 9 = true := by
    rw [e0]
    exact wd_is (w := wCa) h rfl (by decide)
  obtain ⟨a1, a2, a3, a4, a5⟩ := num_go (a := 0) (lo := 3) (hi := 16) h.app.2 (by omega) (Or.inr rfl) h3 h16
  obtain ⟨c1, c2⟩ := semi_go (a := 0) a5
  have eh1 : hd1 T n (stp T n 0 0) = stp T n 0 (0 + wCa.length) := by
    unfold hd1
    rw [hw, pChk_T, e0]
    exact adv_to rfl rfl rfl
  have eh2 : hd2 T n (stp T n 0 0) = stp T n 0 (0 + wCa.length + 1 + (dg N).length + 1) := by
    unfold hd2
    rw [eh1, a3, c1]
  have ec0 : pCan0 T n (stp T n 0 0, R) = (stp T n 0 (0 + wCa.length + 1 + (dg N).length + 1), Zr R (nI N)) := by
    show (hd2 T n (stp T n 0 0), Zr R (nI (pLv T 3 16 (hd1 T n (stp T n 0 0))))) = _
    rw [eh2, eh1, a2]
  have npZ : np (Zr R (nI N)) = N := by unfold np; rw [Zr_1, nI_clamp (by omega)]
  have hbx : ∃ x, nB = x + 1 := ⟨nB - 1, by omega⟩
  obtain ⟨nB', rfl⟩ := hbx
  obtain ⟨i, j, u, v, eb, i1, j1, j2, u1, v1⟩ := hb 0
  have hl1 : ∀ q R', Sf T n q (catR fb 0 (nB' + 1) ++ catR fo 0 nO) → cS T (stp T n 0 q, R') = false := fun q R' hq => by
    have e' : catR fb 0 (nB' + 1) ++ catR fo 0 nO = tx4 wBa i j u v ++ (catR fb 1 nB' ++ catR fo 0 nO) := by
      show (fb 0 ++ catR fb (0 + 1) nB') ++ catR fo 0 nO = _
      rw [List.append_assoc, eb]
    rw [e', tx4_app] at hq
    exact not_S hq
  obtain ⟨q1, R1, b1, b2, b3⟩ := secs_go (a := 0) hs hl1 (N - 1) 501 0 _ (Zr R (nI N)) (by omega) (by rw [npZ]; omega) (by rw [npZ]; exact h16) (fun j _ hj => ⟨Zr_i (by omega) (by omega), Zr_i (by omega) (by omega)⟩) c2
  have ec1 : pCan1 T n (stp T n 0 0, R) = (stp T n 0 q1, R1) := by
    show lp (cS T) (gS T n) 501 (pCan0 T n (stp T n 0 0, R)) = _
    rw [ec0, b1]
  have I1 := IS_1 (R := R) ws
  rw [ec1] at I1
  have w1 : WF 0 R1 := I1.2.1
  have F1 : Fresh R1 := I1.2.2.1
  have o1 : no R1 = 0 := I1.2.2.2.1
  have n1' : nb R1 = 0 := I1.2.2.2.2.2
  have hq1 : Sf T n q1 (tx4 wBa i j u v ++ (catR fb 1 nB' ++ catR fo 0 nO)) := by
    have e' : catR fb 0 (nB' + 1) ++ catR fo 0 nO = tx4 wBa i j u v ++ (catR fb 1 nB' ++ catR fo 0 nO) := by
      show (fb 0 ++ catR fb (0 + 1) nB') ++ catR fo 0 nO = _
      rw [List.append_assoc, eb]
    rw [← e']
    exact b2
  obtain ⟨s1, s2, s3, s4⟩ := bar_go (a := 0) (R := R1) hq1 (by rw [b3, npZ]; exact i1) (by rw [b3, npZ]; exact h16) j1 j2 u1 v1 (by omega)
  have enb := aB_nb (p := nI i) (h' := nI j) (f' := nI u) (w' := nI v) w1 (by omega)
  have eno := aB_no (p := nI i) (h' := nI j) (f' := nI u) (w' := nI v) (R := R1) (by omega)
  have enp : np (aBarge R1 (nI i) (nI j) (nI u) (nI v)) = np R1 := by unfold np; rw [aB_i (by omega) (by decide) (by decide) (by omega)]
  have hl2 : ∀ q R', Sf T n q (catR fo 0 nO) → cB T (stp T n 0 q, R') = false := fun q R' hq => by
    cases nO with
    | zero => exact not_B0 hq
    | succ nO =>
      obtain ⟨i, j, u, v, e, -⟩ := hO 0
      have e' : catR fo 0 (nO + 1) = tx4 wOr i j u v ++ catR fo 1 nO := by
        show fo 0 ++ catR fo (0 + 1) nO = _
        rw [e]
      rw [e', tx4_app] at hq
      exact not_B hq
  obtain ⟨q2, R2, d1, d2, d3⟩ := bars_go (a := 0) hb hl2 nB' 501 1 _ (aBarge R1 (nI i) (nI j) (nI u) (nI v)) (by omega) (by rw [enb]; omega) ⟨0, wf_barge w1 (by omega) o1 F1 (by rw [b3, npZ]; exact i1)⟩ (aB_Fresh w1 (by omega) F1) (by rw [eno]; exact o1) (by rw [enp, b3, npZ]) s4
  have ec2 : pCan2 T n (stp T n 0 0, R) = (stp T n 0 q2, R2) := by
    show lp (cB T) (pBar T n) 501 (pBar T n (pCan1 T n (stp T n 0 0, R))) = _
    rw [ec1, s3, d1]
  have I2 := IB_2 (R := R) ws
  rw [ec2] at I2
  have w2 : WF 0 R2 := I2.2.1
  have o2 : no R2 = 0 := I2.2.2.2
  have np2 : np R2 = N := by
    have k2 := lp_inv (P := fun y : PR => IB T n y ∧ np y.2 = N) (g := cB T) (h := pBar T n) (fun x _ hx => ⟨IB_b hx.1, by
      obtain ⟨s, Rx⟩ := x
      by_cases hz : pe (bar6 T n (s, Rx)) = 0
      · rw [pBar_eq, if_pos hz]
        show np (aBarge Rx _ _ _ _) = N
        have hx2 : np Rx = N := hx.2
        have ok := (bar_ok hz).2.2.1
        rw [← hx2]
        unfold np
        rw [aB_i (by omega) (by decide) (by decide) ok]
      · rw [pBar_bad hz]
        exact hx.2⟩) 501 (stp T n 0 (q1 + (tx4 wBa i j u v).length), aBarge R1 (nI i) (nI j) (nI u) (nI v)) ⟨?_, by show np (aBarge R1 _ _ _ _) = N; rw [enp, b3, npZ]⟩
    · rw [d1] at k2
      exact k2.2
    · rw [← s3]
      exact IB_b ⟨I1.1, w1, F1, o1⟩
  obtain ⟨R3, f1, f2⟩ := ords_go (a := 0) (R := R2) (f := fo) (by rw [np2]; exact hO) (by rw [np2]; exact h16) nO 501 0 q2 R2 (by omega) (by rw [o2]; omega) ⟨0, w2⟩ rfl d2
  refine ⟨R3, ?_, by rw [f2, d3, enb, n1']; omega⟩
  show lp cO (pOrd T n) 501 (pCan2 T n (stp T n 0 0, R)) = _
  rw [ec2, f1]
end TXT3
