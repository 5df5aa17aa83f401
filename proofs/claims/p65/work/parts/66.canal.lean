/-! a whole canal is read -/
def IS (T : Nat → Nat) (n : Nat) (x : PR) : Prop := Ws T n x.1 ∧ WF 0 x.2 ∧ Fresh x.2 ∧ no x.2 = 0 ∧ Br x.2 ∧ nb x.2 = 0
def IB (T : Nat → Nat) (n : Nat) (x : PR) : Prop := Ws T n x.1 ∧ WF 0 x.2 ∧ Fresh x.2 ∧ no x.2 = 0
def IO (T : Nat → Nat) (n : Nat) (x : PR) : Prop := Ws T n x.1 ∧ WF 0 x.2 ∧ (pe x.1 = 0 → 1 ≤ nb x.2)
section CANAL
variable {c' : Bool} {i : Nat} {M M1 M' : TM} {T : Nat → Nat} {n : Nat} {s : PS} {x y : PR} {K : Int32 → TM → Prop} {KV : TM → Prop} {p q u v : Int32} {R R' : Nat → Int32} {a b c d e f j k m x' lo hi code U r sl what : Nat}
theorem sec_fw (w : Ws T n s) (h : pe (sec3 T n what (s, R)) = 0) : pn s < pn (sec3 T n what (s, R)) := by
  have q1 := pNum_ok (pExp_ok h)
  have q2 := pChk_ok (pAdv_ok.1 q1.1) (by decide)
  have q3 := pLook_ok (show pe (pLook T 0 (np R - 2) (pAdv T n s)) = 0 from q2.2.1)
  have q4 := pAdv_ok.1 q3.1
  have w1 := w.adv
  have l1 := pAdv_lt w q4 (by rw [q3.2.1]; decide)
  have w2 : Ws T n (pChk (decide (pe (sec1 T n (s, R)) ≠ 0) || decide (R (what + secV T n (s, R)) = 0)) 3 (sec1 T n (s, R))) := w1.look.chk (by decide)
  have l2 : pn (pAdv T n s) ≤ pn (sec2 T n what (s, R)) := by
    have := pAdv_le w2
    rw [(pChk_pn _ _ _).1, show pn (sec1 T n (s, R)) = pn (pAdv T n s) from pLook_pn.1] at this
    exact this
  have w3 : Ws T n (sec2 T n what (s, R)) := w2.adv
  have l3 := pNum_le (lo := 1) (hi := 9) w3
  have l4 := pExp_le (x' := 59) (w3.num (lo := 1) (hi := 9))
  have e : sec3 T n what (s, R) = pExp T n 59 (pNum T n 1 9 (sec2 T n what (s, R))) := rfl
  rw [e]
  omega
theorem bar_w (w : Ws T n x.1) : Ws T n (bar1 T n x) ∧ Ws T n (bar6 T n x) := by
  have w1 : Ws T n (bar0 T n x) := w.chk (by decide)
  have w2 : Ws T n (bar1 T n x) := (w1.chk (by decide)).adv
  exact ⟨w2, w2.num.num.num.num.exp 59⟩
theorem ord_w (w : Ws T n x.1) : Ws T n (ord1 T n x) ∧ Ws T n (ord6 T n x) := by
  have w1 : Ws T n (ord0 T n x) := w.chk (by decide)
  have w2 : Ws T n (ord1 T n x) := (w1.chk (by decide)).adv
  exact ⟨w2, w2.num.num.num.num.exp 59⟩
theorem sec_w (w : Ws T n s) : Ws T n (sec3 T n what (s, R)) := (((w.adv.look.chk (by decide)).adv : Ws T n (sec2 T n what (s, R))).num).exp 59
theorem bar_ok (h : pe (bar6 T n (s, R)) = 0) : pWd T s 12 = true ∧ pe s = 0 ∧ nb R < 5 ∧ pk (bar1 T n (s, R)) = 2 := by
  have q1 := pNum_ok (pNum_ok (pNum_ok (pNum_ok (pExp_ok h)).1).1).1
  have q2 := pChk_ok (pAdv_ok.1 q1.1) (by decide)
  have q3 := pChk_ok (show pe (bar0 T n (s, R)) = 0 from q2.2.1) (by decide)
  have q4 := q2.1
  rw [show decide (pe (bar0 T n (s, R)) ≠ 0) = false from decide_eq_false (fun h => h q2.2.1), Bool.false_or] at q4
  exact ⟨q3.1, q3.2.1, of_decide_eq_true q4, q1.2⟩
theorem ord_ok (h : pe (ord6 T n (s, R)) = 0) : pWd T s 1 = true ∧ pe s = 0 ∧ no R < 30 ∧ pk (ord1 T n (s, R)) = 2 := by
  have q1 := pNum_ok (pNum_ok (pNum_ok (pNum_ok (pExp_ok h)).1).1).1
  have q2 := pChk_ok (pAdv_ok.1 q1.1) (by decide)
  have q3 := pChk_ok (show pe (ord0 T n (s, R)) = 0 from q2.2.1) (by decide)
  have q4 := q2.1
  rw [show decide (pe (ord0 T n (s, R)) ≠ 0) = false from decide_eq_false (fun h => h q2.2.1), Bool.false_or] at q4
  exact ⟨q3.1, q3.2.1, of_decide_eq_true q4, q1.2⟩
theorem bar_fw (w : Ws T n s) (h : pe (bar6 T n (s, R)) = 0) : pn s < pn (bar6 T n (s, R)) := by
  obtain ⟨h1, h2, h3, h4⟩ := bar_ok h
  have e0 : bar0 T n (s, R) = s := by unfold bar0; dsimp only; rw [h1, pChk_T]
  have e1 : bar1 T n (s, R) = pAdv T n s := by unfold bar1; rw [e0]; dsimp only; rw [decide_eq_true h3, Bool.or_true, pChk_T]
  have l1 := pAdv_lt w h2 (by rw [← e1, h4]; decide)
  rw [← e1] at l1
  have w1 := (bar_w (x := (s, R)) w).1
  have l2 := pNum_le (lo := 0) (hi := np R - 1) w1
  have l3 := pNum_le (lo := 1) (hi := 9) (w1.num (lo := 0) (hi := np R - 1))
  have l4 := pNum_le (lo := 0) (hi := 99) ((w1.num (lo := 0) (hi := np R - 1)).num (lo := 1) (hi := 9))
  have l5 := pNum_le (lo := 0) (hi := 99) (((w1.num (lo := 0) (hi := np R - 1)).num (lo := 1) (hi := 9)).num (lo := 0) (hi := 99))
  have l6 := pExp_le (x' := 59) ((((w1.num (lo := 0) (hi := np R - 1)).num (lo := 1) (hi := 9)).num (lo := 0) (hi := 99)).num (lo := 0) (hi := 99))
  have e : bar6 T n (s, R) = pExp T n 59 (pNum T n 0 99 (pNum T n 0 99 (pNum T n 1 9 (pNum T n 0 (np R - 1) (bar1 T n (s, R)))))) := rfl
  rw [e]
  omega
theorem ord_fw (w : Ws T n s) (h : pe (ord6 T n (s, R)) = 0) : pn s < pn (ord6 T n (s, R)) := by
  obtain ⟨h1, h2, h3, h4⟩ := ord_ok h
  have e0 : ord0 T n (s, R) = s := by unfold ord0; dsimp only; rw [h1, pChk_T]
  have e1 : ord1 T n (s, R) = pAdv T n s := by unfold ord1; rw [e0]; dsimp only; rw [decide_eq_true h3, Bool.or_true, pChk_T]
  have l1 := pAdv_lt w h2 (by rw [← e1, h4]; decide)
  rw [← e1] at l1
  have w1 := (ord_w (x := (s, R)) w).1
  have l2 := pNum_le (lo := 0) (hi := np R - 1) w1
  have l3 := pNum_le (lo := 1) (hi := 4) (w1.num (lo := 0) (hi := np R - 1))
  have l4 := pNum_le (lo := 1) (hi := 6) ((w1.num (lo := 0) (hi := np R - 1)).num (lo := 1) (hi := 4))
  have l5 := pNum_le (lo := 1) (hi := 500) (((w1.num (lo := 0) (hi := np R - 1)).num (lo := 1) (hi := 4)).num (lo := 1) (hi := 6))
  have l6 := pExp_le (x' := 59) ((((w1.num (lo := 0) (hi := np R - 1)).num (lo := 1) (hi := 4)).num (lo := 1) (hi := 6)).num (lo := 1) (hi := 500))
  have e : ord6 T n (s, R) = pExp T n 59 (pNum T n 1 500 (pNum T n 1 6 (pNum T n 1 4 (pNum T n 0 (np R - 1) (ord1 T n (s, R)))))) := rfl
  rw [e]
  omega
theorem pWd_pe (h : pWd T s a = true) : pe s = 0 ∧ pk s = 1 := by
  unfold pWd at h
  rw [Bool.and_eq_true, Bool.and_eq_true, decide_eq_true_eq, decide_eq_true_eq] at h
  exact h.1
theorem pWd_e (h : pe s ≠ 0) : pWd T s a = false := by
  unfold pWd
  rw [decide_eq_false h]
  rfl
/-- what stays in the items -/
theorem IS_mk (h1 : Ws T n s) (h2 : WF 0 R) (h3 : Fresh R) (h4 : no R = 0) (h5 : Br R) (h6 : nb R = 0) : IS T n (s, R) := ⟨h1, h2, h3, h4, h5, h6⟩
theorem IB_mk (h1 : Ws T n s) (h2 : WF 0 R) (h3 : Fresh R) (h4 : no R = 0) : IB T n (s, R) := ⟨h1, h2, h3, h4⟩
theorem IO_mk (h1 : Ws T n s) (h2 : WF 0 R) (h3 : pe s = 0 → 1 ≤ nb R) : IO T n (s, R) := ⟨h1, h2, h3⟩
theorem pSec_eq : pSec T n what (s, R) = (sec3 T n what (s, R), if pe (sec3 T n what (s, R)) = 0 then upd R (what + secV T n (s, R)) (nI (pLv T 1 9 (sec2 T n what (s, R)))) else R) := rfl
theorem pBar_eq : pBar T n (s, R) = (bar6 T n (s, R), if pe (bar6 T n (s, R)) = 0 then aBarge R (nI (pLv T 0 (np R - 1) (bar1 T n (s, R)))) (nI (pLv T 1 9 (bar2 T n (s, R)))) (nI (pLv T 0 99 (bar3 T n (s, R)))) (nI (pLv T 0 99 (bar4 T n (s, R)))) else R) := rfl
theorem pOrd_eq : pOrd T n (s, R) = (ord6 T n (s, R), if pe (ord6 T n (s, R)) = 0 then aOrder R (nI (pLv T 0 (np R - 1) (ord1 T n (s, R)))) (nI (pLv T 1 4 (ord2 T n (s, R)))) (nI (pLv T 1 6 (ord3 T n (s, R)))) (nI (pLv T 1 500 (ord4 T n (s, R)))) else R) := rfl
theorem fst_if {α β : Type} {a : α} {b d : β} {q : Prop} [Decidable q] : (a, if q then b else d) = if q then (a, b) else (a, d) := by split <;> rfl
theorem IS_sec (hw : what = 10 ∨ what = 25) (h : IS T n (s, R)) : IS T n (pSec T n what (s, R)) := by
  obtain ⟨w, wf, fr, o0, br, n0⟩ := h
  replace w : Ws T n s := w
  replace wf : WF 0 R := wf
  replace fr : Fresh R := fr
  replace o0 : no R = 0 := o0
  replace br : Br R := br
  replace n0 : nb R = 0 := n0
  have n16 := wf.np16
  have n3 := wf.np3
  rw [pSec_eq]
  have sw : Ws T n (sec3 T n what (s, R)) := sec_w w
  have rng := pLv_rng (T := T) (s := pAdv T n s) (show 0 ≤ np R - 2 by omega)
  have hV : pLv T 0 (np R - 2) (pAdv T n s) = secV T n (s, R) := rfl
  rw [hV] at rng
  have rl := pLv_rng (T := T) (s := sec2 T n what (s, R)) (show 1 ≤ 9 by decide)
  generalize sec3 T n what (s, R) = s3 at sw ⊢
  generalize secV T n (s, R) = V at rng ⊢
  generalize pLv T 1 9 (sec2 T n what (s, R)) = L at rl ⊢
  rw [fst_if]
  split
  · have g : ∀ i, i < 9 ∨ 40 ≤ i → upd R (what + V) (nI L) i = R i := fun i hi => up_n (by omega)
    refine IS_mk sw (wf_sec wf n0 o0 (by omega) hw rl.2) (fun b hb h5 => ?_) (by unfold no; rw [g _ (by omega)]; exact o0) (fun j hj => ?_) (by unfold nb; rw [g _ (by omega)]; exact n0)
    · unfold bg
      rw [g _ (by omega), g _ (by omega)]
      exact fr b (by rw [n0]; omega) h5
    · by_cases e : 25 + j = what + V
      · rw [e, up_s]; exact ⟨_, rl.2, rfl⟩
      · rw [up_n e]; exact br j hj
  · exact IS_mk sw wf fr o0 br n0
theorem IB_bar (h : IB T n (s, R)) : IB T n (pBar T n (s, R)) ∧ (pe (bar6 T n (s, R)) = 0 → nb (pBar T n (s, R)).2 = nb R + 1) := by
  obtain ⟨w, wf, fr, o0⟩ := h
  replace w : Ws T n s := w
  replace wf : WF 0 R := wf
  replace fr : Fresh R := fr
  replace o0 : no R = 0 := o0
  have n16 := wf.np16
  have n3 := wf.np3
  rw [pBar_eq]
  have bw := (bar_w (x := (s, R)) w).2
  have bo : pe (bar6 T n (s, R)) = 0 → nb R < 5 := fun h => (bar_ok h).2.2.1
  have rg := pLv_rng (T := T) (s := bar1 T n (s, R)) (show 0 ≤ np R - 1 by omega)
  generalize bar6 T n (s, R) = s6 at bw bo ⊢
  generalize pLv T 0 (np R - 1) (bar1 T n (s, R)) = L at rg ⊢
  generalize nI (pLv T 1 9 (bar2 T n (s, R))) = v2
  generalize nI (pLv T 0 99 (bar3 T n (s, R))) = v3
  generalize nI (pLv T 0 99 (bar4 T n (s, R))) = v4
  refine ⟨?_, fun h => ?_⟩
  · rw [fst_if]
    split
    · rename_i h
      exact IB_mk bw (wf_barge wf (bo h) o0 fr (by omega)) (aB_Fresh wf (bo h) fr) (by rw [aB_no (bo h)]; exact o0)
    · exact IB_mk bw wf fr o0
  · dsimp only
    rw [if_pos h]
    exact aB_nb wf (bo h)
theorem IO_ord (h : IO T n (s, R)) : IO T n (pOrd T n (s, R)) ∧ (pe (ord6 T n (s, R)) = 0 → no (pOrd T n (s, R)).2 = no R + 1) := by
  obtain ⟨w, wf, b1⟩ := h
  replace w : Ws T n s := w
  replace wf : WF 0 R := wf
  replace b1 : pe s = 0 → 1 ≤ nb R := b1
  have n16 := wf.np16
  have n3 := wf.np3
  rw [pOrd_eq]
  have bw := (ord_w (x := (s, R)) w).2
  have bo : pe (ord6 T n (s, R)) = 0 → pe s = 0 ∧ no R < 30 := fun h => ⟨(ord_ok h).2.1, (ord_ok h).2.2.1⟩
  have rg := pLv_rng (T := T) (s := ord1 T n (s, R)) (show 0 ≤ np R - 1 by omega)
  generalize ord6 T n (s, R) = s6 at bw bo ⊢
  generalize pLv T 0 (np R - 1) (ord1 T n (s, R)) = L at rg ⊢
  generalize nI (pLv T 1 4 (ord2 T n (s, R))) = v2
  generalize nI (pLv T 1 6 (ord3 T n (s, R))) = v3
  generalize nI (pLv T 1 500 (ord4 T n (s, R))) = v4
  refine ⟨?_, fun h => ?_⟩
  · rw [fst_if]
    split
    · rename_i h
      have n30 := (bo h).2
      refine IO_mk bw (wf_order wf (by unfold okO; rw [inR_nI (by omega) (by omega), decide_eq_true n30]; rfl)) (fun _ => ?_)
      rw [(aO_sb wf).eN]
      exact b1 (bo h).1
    · rename_i h
      exact IO_mk bw wf (fun h' => absurd h' h)
  · dsimp only
    rw [if_pos h]
    exact aO_no wf
/-- the class's loops -/
theorem c_secs (hc : 27 ≤ c) (KV : TM → Prop) : ∀ f i x M, (n - pn x.1 < f ∨ pe x.1 ≠ 0) → IS T n x → PC M T n x.1 → (pe x.1 = 0 → RelC c M x.2) → (cS T x = true → i + 1 ≤ pn x.1) → (∀ M', FrX c M M' → PC M' T n (lp (cS T) (gS T n) f x).1 → (pe (lp (cS T) (gS T n) f x).1 = 0 → RelC c M' (lp (cS T) (gS T n) f x).2) → KV M') → i ≤ 500 → f_X3_parseSections_L2 c KV (f + 1) (nI i) M := by
  intro f
  induction f with
  | zero =>
    intro i x M hf hI hP hR hJ hK hi
    have he : pe x.1 ≠ 0 := by rcases hf with h | h; omega; exact h
    rw [f_X3_parseSections_L2, show (500 : Int32) = nI 500 from rfl, nI_leI (by decide) (by omega)]
    refine ⟨fun _ => hK M (FrX.refl _ _) hP hR, fun c1 => ?_⟩
    refine c_isAtWord hP hI.1 (by decide) ?_
    rw [pWd_e he]
    refine bF (fun c => by cases c) (fun _ => ?_)
    refine c_isAtWord hP hI.1 (by decide) ?_
    rw [pWd_e he]
    exact bF (fun c => by cases c) (fun _ => hK M (FrX.refl _ _) hP hR)
  | succ f ih =>
    intro i x M hf hI hP hR hJ hK hi
    obtain ⟨s, R⟩ := x
    obtain ⟨w, wf, fr, o0, br, n0⟩ := id hI
    replace hf : n - pn s < f + 1 ∨ pe s ≠ 0 := hf
    replace hP : PC M T n s := hP
    replace hR : pe s = 0 → RelC c M R := hR
    replace hJ : cS T (s, R) = true → i + 1 ≤ pn s := hJ
    replace w : Ws T n s := w
    replace wf : WF 0 R := wf
    replace o0 : no R = 0 := o0
    replace br : Br R := br
    replace n0 : nb R = 0 := n0
    have wn := w.1
    have tl := w.2.2.le
    have step : ∀ what sl, (what = 10 ∧ sl = 0) ∨ (what = 25 ∧ sl = 1) → cS T (s, R) = true → pe s = 0 → gS T n (s, R) = pSec T n what (s, R) → fSec c sl M (fun M10 => f_X3_parseSections_L2 c KV (f + 1) (nI i + 1) M10) := fun what sl hw hc1 h0 eg => by
      have hw' : what = 10 ∨ what = 25 := by omega
      refine c_sec hw hc h0 hP w (hR h0) wf br n0 o0 (fun M' f' p' r' => ?_)
      have el : lp (cS T) (gS T n) (f + 1) (s, R) = lp (cS T) (gS T n) f (pSec T n what (s, R)) := by
        show (if cS T (s, R) = true then lp (cS T) (gS T n) f (gS T n (s, R)) else (s, R)) = _
        rw [if_pos hc1, eg]
      rw [el] at hK
      have e1 : (pSec T n what (s, R)).1 = sec3 T n what (s, R) := by rw [pSec_eq]
      rw [nI_1]
      have hi1 := hJ hc1
      refine ih (i + 1) (pSec T n what (s, R)) M' ?_ (IS_sec hw' hI) (by rw [e1]; exact p') (by rw [e1]; exact r') (fun hc2 => ?_) (fun M2 f2 p2 r2 => hK M2 (f'.trans f2) p2 r2) (by omega)
      · rw [e1]
        by_cases he : pe (sec3 T n what (s, R)) = 0
        · have := sec_fw w he
          have t2 := (sec_w (R := R) (what := what) w).2.2.le
          left; omega
        · exact Or.inr he
      · rw [e1]
        have he : pe (sec3 T n what (s, R)) = 0 := by
          unfold cS at hc2
          rw [e1, Bool.or_eq_true] at hc2
          rcases hc2 with h | h
          · exact (pWd_pe h).1
          · exact (pWd_pe h).1
        have := sec_fw w he
        omega
    have done : cS T (s, R) = false → KV M := fun hc1 => by
      have el : lp (cS T) (gS T n) (f + 1) (s, R) = (s, R) := by
        show (if cS T (s, R) = true then lp (cS T) (gS T n) f (gS T n (s, R)) else (s, R)) = _
        rw [if_neg (by rw [hc1]; decide)]
      rw [el] at hK
      exact hK M (FrX.refl _ _) hP hR
    rw [f_X3_parseSections_L2, show (500 : Int32) = nI 500 from rfl, nI_leI (by decide) (by omega)]
    refine ⟨fun c1 => done ?_, fun c1 => ?_⟩
    · rw [Bool.eq_false_iff]
      intro hc1
      have := hJ hc1
      omega
    · refine c_isAtWord hP w (by decide) ?_
      refine bF (fun h1 => ?_) (fun h1 => ?_)
      · have := step 10 0 (Or.inl ⟨rfl, rfl⟩) (by unfold cS; rw [h1]; rfl) (pWd_pe h1).1 (by unfold gS; rw [if_pos h1])
        exact this
      · refine c_isAtWord hP w (by decide) ?_
        refine bF (fun h2 => ?_) (fun h2 => done (by unfold cS; rw [h1, h2]; rfl))
        have := step 25 1 (Or.inr ⟨rfl, rfl⟩) (by unfold cS; rw [h2, Bool.or_true]) (pWd_pe h2).1 (by unfold gS; rw [if_neg (by rw [h1]; decide)])
        exact this
theorem c_bars (hc : 27 ≤ c) (KV : TM → Prop) : ∀ f i x M, (n - pn x.1 < f ∨ pe x.1 ≠ 0) → IB T n x → PC M T n x.1 → (pe x.1 = 0 → RelC c M x.2 ∧ nb x.2 = i) → i ≤ 6 → (∀ M', FrX c M M' → PC M' T n (lp (cB T) (pBar T n) f x).1 → (pe (lp (cB T) (pBar T n) f x).1 = 0 → RelC c M' (lp (cB T) (pBar T n) f x).2) → KV M') → f_X3_parseBarges_L16 c KV (f + 1) (nI i) M := by
  intro f
  induction f with
  | zero =>
    intro i x M hf hI hP hR hi hK
    have he : pe x.1 ≠ 0 := by rcases hf with h | h; omega; exact h
    rw [f_X3_parseBarges_L16, show (5 : Int32) = nI 5 from rfl, nI_ltI (by decide) (by omega)]
    refine ⟨fun _ => hK M (FrX.refl _ _) hP (fun h => (hR h).1), fun c1 => ?_⟩
    refine c_isAtWord hP hI.1 (by decide) ?_
    rw [pWd_e he]
    exact bF (fun c => by cases c) (fun _ => hK M (FrX.refl _ _) hP (fun h => (hR h).1))
  | succ f ih =>
    intro i x M hf hI hP hR hi hK
    obtain ⟨s, R⟩ := x
    obtain ⟨w, wf, fr, o0⟩ := id hI
    replace hf : n - pn s < f + 1 ∨ pe s ≠ 0 := hf
    replace hP : PC M T n s := hP
    replace hR : pe s = 0 → RelC c M R ∧ nb R = i := hR
    replace w : Ws T n s := w
    replace wf : WF 0 R := wf
    replace fr : Fresh R := fr
    replace o0 : no R = 0 := o0
    have wn := w.1
    have tl := w.2.2.le
    have n5 := wf.nb5
    have done : cB T (s, R) = false → KV M := fun hc1 => by
      have el : lp (cB T) (pBar T n) (f + 1) (s, R) = (s, R) := by
        show (if cB T (s, R) = true then lp (cB T) (pBar T n) f (pBar T n (s, R)) else (s, R)) = _
        rw [if_neg (by rw [hc1]; decide)]
      rw [el] at hK
      exact hK M (FrX.refl _ _) hP (fun h => (hR h).1)
    have e1 : (pBar T n (s, R)).1 = bar6 T n (s, R) := by rw [pBar_eq]
    rw [f_X3_parseBarges_L16, show (5 : Int32) = nI 5 from rfl, nI_ltI (by decide) (by omega), nI_eq (by omega) (by decide), nI_1]
    refine ⟨fun c1 => done ?_, fun c1 => ?_⟩
    · rw [Bool.eq_false_iff]
      intro hc1
      have := (hR (pWd_pe hc1).1).2
      omega
    · refine c_isAtWord hP w (by decide) ?_
      refine bF (fun h1 => ?_) (fun h1 => done h1)
      have h0 := (pWd_pe h1).1
      have hn := (hR h0).2
      have el : lp (cB T) (pBar T n) (f + 1) (s, R) = lp (cB T) (pBar T n) f (pBar T n (s, R)) := by
        show (if cB T (s, R) = true then lp (cB T) (pBar T n) f (pBar T n (s, R)) else (s, R)) = _
        rw [if_pos (show cB T (s, R) = true from h1)]
      rw [el] at hK
      have hI' := IB_bar hI
      have fz : n - pn (bar6 T n (s, R)) < f ∨ pe (bar6 T n (s, R)) ≠ 0 := by
        by_cases he : pe (bar6 T n (s, R)) = 0
        · have := bar_fw w he
          have t2 := (bar_w (x := (s, R)) w).2.2.2.le
          left; omega
        · exact Or.inr he
      refine ⟨fun c2 => ?_, fun c2 => ?_⟩
      · refine c_bar hc h1 hP w (hR h0).1 wf (by omega) o0 fr (fun M' f' p' r' => ?_)
        refine ih (i + 1) (pBar T n (s, R)) M' (by rw [e1]; exact fz) hI'.1 (by rw [e1]; exact p') (fun he => ?_) (by omega) (fun M2 f2 p2 r2 => hK M2 (f'.trans f2) p2 r2)
        rw [e1] at he
        exact ⟨r' he, by rw [hI'.2 he, hn]⟩
      · have b0 : bar0 T n (s, R) = s := by unfold bar0; dsimp only; rw [h1, pChk_T]
        have b6 : bar6 T n (s, R) = pChk false 4 s := by
          have b1 : bar1 T n (s, R) = pChk false 4 s := by
            unfold bar1
            rw [b0]
            dsimp only
            rw [show decide (pe s ≠ 0) = false from decide_eq_false (fun h => h h0), decide_eq_false (show ¬ nb R < 5 by omega), Bool.or_false, pChk_F h0, pAdv_e (show (4 : Nat) ≠ 0 by decide)]
          have ne : pe (pChk false 4 s) ≠ 0 := by rw [pChk_F h0]; exact (show (4 : Nat) ≠ 0 by decide)
          unfold bar6 bar5 bar4 bar3 bar2
          rw [b1, pNum_e ne, pNum_e ne, pNum_e ne, pNum_e ne, pExp_e ne]
        have ne : pe (bar6 T n (s, R)) ≠ 0 := by rw [b6, pChk_F h0]; exact (show (4 : Nat) ≠ 0 by decide)
        refine c_fail hP w (code := 4) rfl (by decide) (fun M' f' p' => ?_)
        rw [← b6] at p'
        refine ih (i + 1) (pBar T n (s, R)) M' (by rw [e1]; exact Or.inr ne) hI'.1 (by rw [e1]; exact p') (fun he => absurd (by rw [e1] at he; exact he) ne) (by omega) (fun M2 f2 p2 r2 => hK M2 ((f'.x c).trans f2) p2 r2)
end CANAL
