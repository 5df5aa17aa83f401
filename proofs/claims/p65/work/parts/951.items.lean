/-! p65: the reader over a text that is built as the law builds it: items and the whole -/
def wLk : List Nat := [108, 111, 99, 107]
def wBr : List Nat := [98, 114, 105, 100, 103, 101]
def wBa : List Nat := [98, 97, 114, 103, 101]
def wOr : List Nat := [111, 114, 100, 101, 114]
def wCa : List Nat := [99, 97, 110, 97, 108]
def tx2 (w : List Nat) (k v : Nat) : List Nat := w ++ 32 :: (dg k ++ 32 :: (dg v ++ [59]))
def tx4 (w : List Nat) (i j k v : Nat) : List Nat := w ++ 32 :: (dg i ++ 32 :: (dg j ++ 32 :: (dg k ++ 32 :: (dg v ++ [59]))))
def catR (f : Nat → List Nat) (k : Nat) : Nat → List Nat
  | 0 => []
  | n + 1 => f k ++ catR f (k + 1) n
section TXT2
variable {T : Nat → Nat} {n p a e v c k what i j : Nat} {l w : List Nat} {s : PS} {R R' : Nat → Int32}
theorem tx2_len : (tx2 w k v).length = w.length + 1 + (dg k).length + 1 + (dg v).length + 1 := by
  unfold tx2
  simp only [List.length_append, List.length_cons, List.length_nil]
  omega
theorem tx4_len : (tx4 w i j k v).length = w.length + 1 + (dg i).length + 1 + (dg j).length + 1 + (dg k).length + 1 + (dg v).length + 1 := by
  unfold tx4
  simp only [List.length_append, List.length_cons, List.length_nil]
  omega
theorem tx2_app : tx2 w k v ++ l = w ++ 32 :: (dg k ++ 32 :: (dg v ++ 59 :: l)) := by
  unfold tx2
  simp only [List.append_assoc, List.cons_append, List.nil_append]
theorem tx4_app : tx4 w i j k v ++ l = w ++ 32 :: (dg i ++ 32 :: (dg j ++ 32 :: (dg k ++ 32 :: (dg v ++ 59 :: l)))) := by
  unfold tx4
  simp only [List.append_assoc, List.cons_append, List.nil_append]
theorem sec_go (h : Sf T n p (tx2 w k v ++ l)) (h0 : 0 < w.length) (hw : ∀ i, i < w.length → isL (w.getD i 0) = true) (hk : k + 2 ≤ np R) (hn : np R ≤ 16) (h1 : 1 ≤ v) (h9 : v ≤ 9) (hz : R (what + k) = 0) : stp T n a p = (0, a, p, p + w.length, 1) ∧ pSec T n what (stp T n a p, R) = (stp T n a (p + (tx2 w k v).length), upd R (what + k) (nI v)) ∧ Sf T n (p + (tx2 w k v).length) l := by
  rw [tx2_app] at h
  have es : stp T n a p = (0, a, p, p + w.length, 1) := st_word h h0 hw rfl
  obtain ⟨a1, a2, a3, a4, a5⟩ := num_go (a := a) (lo := 0) (hi := np R - 2) h.app.2 (by omega) (Or.inl rfl) (Nat.zero_le _) (by omega)
  obtain ⟨b1, b2, b3, b4, b5⟩ := num_go (a := a) (lo := 1) (hi := 9) a5 (by omega) (Or.inr rfl) h1 h9
  obtain ⟨c1, c2⟩ := semi_go (a := a) b5
  have el : p + (tx2 w k v).length = p + w.length + 1 + (dg k).length + 1 + (dg v).length + 1 := by rw [tx2_len]; omega
  refine ⟨es, ?_, by rw [el]; exact c2⟩
  have ea : pAdv T n (stp T n a p) = stp T n a (p + w.length) := by rw [es]; exact adv_to rfl rfl rfl
  have e1 : sec1 T n (stp T n a p, R) = stp T n a (p + w.length) := by
    show pLook T 0 (np R - 2) (pAdv T n (stp T n a p)) = _
    rw [ea, a1]
  have eV : secV T n (stp T n a p, R) = k := by
    show pLv T 0 (np R - 2) (pAdv T n (stp T n a p)) = _
    rw [ea, a2]
  have e2 : sec2 T n what (stp T n a p, R) = stp T n a (p + w.length + 1 + (dg k).length) := by
    show pAdv T n (pChk (decide (pe (sec1 T n (stp T n a p, R)) ≠ 0) || decide (R (what + secV T n (stp T n a p, R)) = 0)) 3 (sec1 T n (stp T n a p, R))) = _
    rw [e1, eV, decide_eq_true hz, Bool.or_true, pChk_T, a4]
  have e3 : sec3 T n what (stp T n a p, R) = stp T n a (p + (tx2 w k v).length) := by
    show pExp T n 59 (pNum T n 1 9 (sec2 T n what (stp T n a p, R))) = _
    rw [e2, b3, c1, el]
  rw [pSec_eq, e3, if_pos (show pe (stp T n a _) = 0 from rfl), eV, e2, b2]
theorem bar_go (h : Sf T n p (tx4 wBa i j k v ++ l)) (hi : i < np R) (hn : np R ≤ 16) (hj1 : 1 ≤ j) (hj : j ≤ 9) (hk : k ≤ 99) (hv : v ≤ 99) (h5 : nb R < 5) : stp T n a p = (0, a, p, p + 5, 1) ∧ pWd T (stp T n a p) 12 = true ∧ pBar T n (stp T n a p, R) = (stp T n a (p + (tx4 wBa i j k v).length), aBarge R (nI i) (nI j) (nI k) (nI v)) ∧ Sf T n (p + (tx4 wBa i j k v).length) l := by
  rw [tx4_app] at h
  have es : stp T n a p = (0, a, p, p + 5, 1) := st_word h (by decide) (by decide) rfl
  obtain ⟨a1, a2, a3, a4, a5⟩ := num_go (a := a) (lo := 0) (hi := np R - 1) h.app.2 (by omega) (Or.inl rfl) (Nat.zero_le _) (by omega)
  obtain ⟨b1, b2, b3, b4, b5⟩ := num_go (a := a) (lo := 1) (hi := 9) a5 (by omega) (Or.inl rfl) hj1 hj
  obtain ⟨c1, c2, c3, c4, c5⟩ := num_go (a := a) (lo := 0) (hi := 99) b5 (by omega) (Or.inl rfl) (Nat.zero_le _) hk
  obtain ⟨d1, d2, d3, d4, d5⟩ := num_go (a := a) (lo := 0) (hi := 99) c5 (by omega) (Or.inr rfl) (Nat.zero_le _) hv
  obtain ⟨f1, f2⟩ := semi_go (a := a) d5
  have el : p + (tx4 wBa i j k v).length = p + wBa.length + 1 + (dg i).length + 1 + (dg j).length + 1 + (dg k).length + 1 + (dg v).length + 1 := by rw [tx4_len]; omega
  have hw : pWd T (stp T n a p) 12 = true := by
    rw [es]
    exact wd_is (w := wBa) h rfl (by decide)
  refine ⟨es, hw, ?_, by rw [el]; exact f2⟩
  have e0 : bar0 T n (stp T n a p, R) = stp T n a p := by
    show pChk (pWd T (stp T n a p) 12) 1 (stp T n a p) = _
    rw [hw, pChk_T]
  have e1 : bar1 T n (stp T n a p, R) = stp T n a (p + wBa.length) := by
    show pAdv T n (pChk (decide (pe (bar0 T n (stp T n a p, R)) ≠ 0) || decide (nb R < 5)) 4 (bar0 T n (stp T n a p, R))) = _
    rw [e0, decide_eq_true h5, Bool.or_true, pChk_T, es]
    exact adv_to rfl rfl rfl
  have e2 : bar2 T n (stp T n a p, R) = stp T n a (p + wBa.length + 1 + (dg i).length) := by
    show pNum T n 0 (np R - 1) (bar1 T n (stp T n a p, R)) = _
    rw [e1, a3]
  have e3 : bar3 T n (stp T n a p, R) = stp T n a (p + wBa.length + 1 + (dg i).length + 1 + (dg j).length) := by
    show pNum T n 1 9 (bar2 T n (stp T n a p, R)) = _
    rw [e2, b3]
  have e4 : bar4 T n (stp T n a p, R) = stp T n a (p + wBa.length + 1 + (dg i).length + 1 + (dg j).length + 1 + (dg k).length) := by
    show pNum T n 0 99 (bar3 T n (stp T n a p, R)) = _
    rw [e3, c3]
  have e6 : bar6 T n (stp T n a p, R) = stp T n a (p + (tx4 wBa i j k v).length) := by
    show pExp T n 59 (pNum T n 0 99 (bar4 T n (stp T n a p, R))) = _
    rw [e4, d3, f1, el]
  rw [pBar_eq, e6, if_pos (show pe (stp T n a _) = 0 from rfl), e1, e2, e3, e4, a2, b2, c2, d2]
theorem ord_go (h : Sf T n p (tx4 wOr i j k v ++ l)) (hi : i < np R) (hn : np R ≤ 16) (hj1 : 1 ≤ j) (hj : j ≤ 4) (hk1 : 1 ≤ k) (hk : k ≤ 6) (hv1 : 1 ≤ v) (hv : v < 100) (h30 : no R < 30) : stp T n a p = (0, a, p, p + 5, 1) ∧ pOrd T n (stp T n a p, R) = (stp T n a (p + (tx4 wOr i j k v).length), aOrder R (nI i) (nI j) (nI k) (nI v)) ∧ Sf T n (p + (tx4 wOr i j k v).length) l := by
  rw [tx4_app] at h
  have es : stp T n a p = (0, a, p, p + 5, 1) := st_word h (by decide) (by decide) rfl
  obtain ⟨a1, a2, a3, a4, a5⟩ := num_go (a := a) (lo := 0) (hi := np R - 1) h.app.2 (by omega) (Or.inl rfl) (Nat.zero_le _) (by omega)
  obtain ⟨b1, b2, b3, b4, b5⟩ := num_go (a := a) (lo := 1) (hi := 4) a5 (by omega) (Or.inl rfl) hj1 hj
  obtain ⟨c1, c2, c3, c4, c5⟩ := num_go (a := a) (lo := 1) (hi := 6) b5 (by omega) (Or.inl rfl) hk1 hk
  obtain ⟨d1, d2, d3, d4, d5⟩ := num_go (a := a) (lo := 1) (hi := 500) c5 (by omega) (Or.inr rfl) hv1 (by omega)
  obtain ⟨f1, f2⟩ := semi_go (a := a) d5
  have el : p + (tx4 wOr i j k v).length = p + wOr.length + 1 + (dg i).length + 1 + (dg j).length + 1 + (dg k).length + 1 + (dg v).length + 1 := by rw [tx4_len]; omega
  have hw : pWd T (stp T n a p) 1 = true := by
    rw [es]
    exact wd_is (w := wOr) h rfl (by decide)
  refine ⟨es, ?_, by rw [el]; exact f2⟩
  have e0 : ord0 T n (stp T n a p, R) = stp T n a p := by
    show pChk (pWd T (stp T n a p) 1) 1 (stp T n a p) = _
    rw [hw, pChk_T]
  have e1 : ord1 T n (stp T n a p, R) = stp T n a (p + wOr.length) := by
    show pAdv T n (pChk (decide (pe (ord0 T n (stp T n a p, R)) ≠ 0) || decide (no R < 30)) 4 (ord0 T n (stp T n a p, R))) = _
    rw [e0, decide_eq_true h30, Bool.or_true, pChk_T, es]
    exact adv_to rfl rfl rfl
  have e2 : ord2 T n (stp T n a p, R) = stp T n a (p + wOr.length + 1 + (dg i).length) := by
    show pNum T n 0 (np R - 1) (ord1 T n (stp T n a p, R)) = _
    rw [e1, a3]
  have e3 : ord3 T n (stp T n a p, R) = stp T n a (p + wOr.length + 1 + (dg i).length + 1 + (dg j).length) := by
    show pNum T n 1 4 (ord2 T n (stp T n a p, R)) = _
    rw [e2, b3]
  have e4 : ord4 T n (stp T n a p, R) = stp T n a (p + wOr.length + 1 + (dg i).length + 1 + (dg j).length + 1 + (dg k).length) := by
    show pNum T n 1 6 (ord3 T n (stp T n a p, R)) = _
    rw [e3, c3]
  have e6 : ord6 T n (stp T n a p, R) = stp T n a (p + (tx4 wOr i j k v).length) := by
    show pExp T n 59 (pNum T n 1 500 (ord4 T n (stp T n a p, R))) = _
    rw [e4, d3, f1, el]
  rw [pOrd_eq, e6, if_pos (show pe (stp T n a _) = 0 from rfl), e1, e2, e3, e4, a2, b2, c2, d2]
/-- orders to the end -/
theorem ords_go {f : Nat → List Nat} (hf : ∀ k, ∃ i j u v, f k = tx4 wOr i j u v ∧ i < np R ∧ 1 ≤ j ∧ j ≤ 4 ∧ 1 ≤ u ∧ u ≤ 6 ∧ 1 ≤ v ∧ v < 100) (hn : np R ≤ 16) : ∀ m g k p R1, m < g → no R1 + m ≤ 30 → (∃ U, WF U R1) → np R1 = np R → Sf T n p (catR f k m) → ∃ R2, lp cO (pOrd T n) g (stp T n a p, R1) = ((0, a, n, n, 0), R2) ∧ nb R2 = nb R1 := by
  intro m
  induction m with
  | zero =>
    intro g k p R1 hg h30 hw hnp h
    refine ⟨R1, ?_, rfl⟩
    rw [st_end h]
    exact lp_F rfl
  | succ m ih =>
    intro g k p R1 hg h30 hw hnp h
    obtain ⟨i, j, u, v, e, i1, j1, j2, u1, u2, v1, v2⟩ := hf k
    have h' : Sf T n p (tx4 wOr i j u v ++ catR f (k + 1) m) := by rw [← e]; exact h
    obtain ⟨U, w1⟩ := hw
    obtain ⟨s1, s2, s3⟩ := ord_go (a := a) (R := R1) h' (by omega) (by omega) j1 j2 u1 u2 v1 v2 (by omega)
    have eno := aO_no (p := nI i) (bo := nI j) (pu := nI u) (mi := nI v) w1
    have enb : nb (aOrder R1 (nI i) (nI j) (nI u) (nI v)) = nb R1 := by unfold nb; rw [aO_s (by decide) (by decide)]
    have enp : np (aOrder R1 (nI i) (nI j) (nI u) (nI v)) = np R1 := by unfold np; rw [aO_s (by decide) (by decide)]
    obtain ⟨g', rfl⟩ : ∃ g', g = g' + 1 := ⟨g - 1, by omega⟩
    obtain ⟨R2, q1, q2⟩ := ih g' (k + 1) (p + (tx4 wOr i j u v).length) (aOrder R1 (nI i) (nI j) (nI u) (nI v)) (by omega) (by rw [eno]; omega) ⟨U, wf_order w1 (by unfold okO; rw [inR_nI (show i < np R1 by omega) (by omega), decide_eq_true (show no R1 < 30 by omega)]; rfl)⟩ (by rw [enp]; exact hnp) s3
    refine ⟨R2, ?_, by rw [q2, enb]⟩
    rw [lp_T (by rw [s1]; rfl), s2]
    exact q1
end TXT2
