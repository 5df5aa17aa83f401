/-! the items of a canal's text: the class's reading and the model's -/
def FrX (c : Nat) (M M' : TM) : Prop := (∀ i, i ≠ 1 → (i < c ∨ c + 61 ≤ i) → M' i = M i) ∧ ∀ j, j < 3 → M' 1 j = M 1 j
def FrN (r : Nat) (M M' : TM) : Prop := (∀ i, i ≠ 699 → i ≠ r → M' i = M i) ∧ ∀ j, j < 17 ∨ 22 ≤ j → M' 699 j = M 699 j
def Br (R : Nat → Int32) : Prop := ∀ j, j < 15 → ∃ v, v ≤ 9 ∧ R (25 + j) = nI v
section ITEMS
variable {c' : Bool} {i : Nat} {M M1 M' : TM} {T : Nat → Nat} {n : Nat} {s : PS} {K : Int32 → TM → Prop} {KV : TM → Prop} {p q u v : Int32} {R R' : Nat → Int32} {a b c d e f j k m x' lo hi code U r sl what : Nat}
theorem FrX.refl (c : Nat) (M : TM) : FrX c M M := ⟨fun _ _ _ => rfl, fun _ _ => rfl⟩
theorem FrX.trans (h : FrX c M M1) (g : FrX c M1 M') : FrX c M M' := ⟨fun i h1 h2 => (g.1 i h1 h2).trans (h.1 i h1 h2), fun j hj => (g.2 j hj).trans (h.2 j hj)⟩
theorem FrN.refl (r : Nat) (M : TM) : FrN r M M := ⟨fun _ _ _ => rfl, fun _ _ => rfl⟩
theorem FrN.trans (h : FrN r M M1) (g : FrN r M1 M') : FrN r M M' := ⟨fun i h1 h2 => (g.1 i h1 h2).trans (h.1 i h1 h2), fun j hj => (g.2 j hj).trans (h.2 j hj)⟩
theorem FrT.x (h : FrT M M') (c : Nat) : FrX c M M' := ⟨fun i h1 _ => h.1 i h1, h.2⟩
theorem FrM.toN (h : FrM M M') (r : Nat) : FrN r M M' := ⟨fun i h1 _ => h.1 i h1, h.2⟩
theorem PC.fr (h : PC M T n s) (h1 : M' 1 = M 1) (h2 : M' 2 = M 2) : PC M' T n s := by
  unfold PC at h ⊢
  rw [h1]
  exact ⟨h.1.of (by rw [h1]) h2, h.2⟩
theorem PM.fr (h : PM M T n s) (h1 : M' 699 = M 699) (h2 : M' 707 = M 707) : PM M' T n s := by
  unfold PM at h ⊢
  rw [h1]
  exact ⟨h.1.of (by rw [h1]) h2, h.2⟩
theorem RelC.ft (h : RelC c M R) (w : WF U R) (hc : 27 ≤ c) (f : FrT M M') : RelC c M' R := h.frame (fun k h1 h2 => f.1 k (by omega)) w.nb5 w.no30
theorem uR_self (h : M r = R) : uR M r R = M := by rw [← h, uR_id]
theorem Rw.fm (hr : Rw M r) (f : FrN r M M') : Rw M' r := by
  unfold Rw
  rw [f.2 6 (by decide)]
  exact hr
theorem Rw.r7 (hr : Rw M r) : r ≠ 699 ∧ r ≠ 707 := by rcases hr with ⟨_, rfl⟩ | ⟨_, rfl⟩ <;> decide
theorem Rw.rd' (hr : Rw M r) (hR : M r = R) {x : Int32} {i : Nat} (e : x = nI i) (hi : i < 377) : M (700 + (M 699 6).toNatClampNeg) x.toNatClampNeg = R i := by
  have := hr.rd (R := R) e hi
  rw [uR_self hR] at this
  exact this
theorem Rw.v' (hr : Rw M r) (hR : M r = R) : vp_in (M 699 6) 2 := by
  have := hr.v R
  rw [uR_self hR] at this
  exact this
theorem Rw.cc (hr : Rw M r) (hR : M r = R) : 700 + (M 699 6).toNatClampNeg = r := by
  have := hr.c R
  rw [uR_self hR] at this
  exact this
/-- an error told at another place than the token -/
theorem c_failAt' (h : PC M T n s) (w : Ws T n s) (e1 : p = nI code) (e2 : q = nI a) (hcode : code ≠ 0) (h0 : pe s = 0) {s' : PS} (g1 : pe s' = code) (g2 : pa s' = a) (hK : ∀ M', FrT M M' → PC M' T n s' → KV M') : f_X10_failAt p q M KV := by
  subst e1 e2
  unfold f_X10_failAt
  rw [h.2.1, h0]
  refine cT rfl ?_
  intro M2 e2' M3 e3
  refine hK M3 ⟨fun i hi => by rw [e3, u2_n hi, e2', u2_n hi], fun j hj => by rw [e3, u2_f (by omega), e2', u2_f (by omega)]⟩ ?_
  refine ⟨h.1.of (by rw [e3, u2_f (by decide), e2', u2_f (by decide)]) (by rw [e3, u2_n (by decide), e2', u2_n (by decide)]), by rw [e3, u2_f (by decide), e2', u2_s, g1], fun _ => by rw [e3, u2_s, g2], fun h => absurd (g1.symm.trans h) hcode⟩
/-- a lock or a bridge, the class's -/
def fSecL (a1 sl : Nat) (K : TM → Prop) (x3 : Int32) (M : TM) : Prop := vp_in x3 15 ∧ f_X10_readNumber (1 : Int32) (9 : Int32) M (fun r13 M12 => ∀ M14, M14 = u2 M12 (a1 + 6 + x3.toNatClampNeg) sl r13 → f_X10_readToken (5 : Int32) M14 (fun M15 => K M15))
def fSec (a1 sl : Nat) (M : TM) (K : TM → Prop) : Prop := f_X10_advance M (fun M1 => f_X10_readNumber (0 : Int32) ((M1 a1 0) - (2 : Int32)) M1 (fun r3 M2 => f_X2_hasSection a1 r3 M2 (fun r5 M4 => ((r5 = 0 → f_X10_readToken (5 : Int32) M4 (fun M8 => K M8)) ∧ (¬ r5 = 0 → vp_in r3 15 ∧ (((M4 (a1 + 6 + r3.toNatClampNeg) sl) ≤ 0 → fSecL a1 sl K r3 M4) ∧ (¬ (M4 (a1 + 6 + r3.toNatClampNeg) sl) ≤ 0 → f_X10_failAt (3 : Int32) (M1 1 4) M4 (fun M16 => fSecL a1 sl K r3 M16))))))))
theorem fSec_0 : f_X3_parseLock c M KV = fSec c 0 M KV := rfl
theorem fSec_1 : f_X3_parseBridge c M KV = fSec c 1 M KV := rfl
theorem c_sec (hw : (what = 10 ∧ sl = 0) ∨ (what = 25 ∧ sl = 1)) (hc : 27 ≤ c) (h0 : pe s = 0) (h : PC M T n s) (w : Ws T n s) (rc : RelC c M R) (wf : WF U R) (br : Br R) (n0 : nb R = 0) (o0 : no R = 0) (hK : ∀ M', FrX c M M' → PC M' T n (sec3 T n what (s, R)) → (pe (sec3 T n what (s, R)) = 0 → RelC c M' (pSec T n what (s, R)).2) → KV M') : fSec c sl M KV := by
  unfold fSec
  have n16 := wf.np16
  have n3 := wf.np3
  refine c_adv h w h0 (fun M1 f1 h1 => ?_)
  have w1 := w.adv
  have rc1 := rc.ft wf hc f1
  have m14 : M1 1 4 = nI (pb (pAdv T n s)) := (h1.2.2.2 (pAdv_ok.2 h0)).2.1
  refine c_readNumber h1 w1 (lo := 0) (hi := np R - 2) rfl (by rw [rc1.1.1, wf.1.1.1.1, show (2 : Int32) = nI 2 from rfl, nI_sub (by omega)]) (by omega) (by omega) (fun M2 f2 h2 => ?_)
  have rc2 := rc1.ft wf hc f2
  have rng := pLv_rng (T := T) (s := pAdv T n s) (show 0 ≤ np R - 2 by omega)
  have hV : pLv T 0 (np R - 2) (pAdv T n s) = secV T n (s, R) := rfl
  rw [hV] at rng ⊢
  refine c_hasSection wf rc2 ?_
  rw [inR_nI (by omega) (by omega)]
  refine bF (fun _ => ⟨vp_in_nI (by omega) (by decide), ?_⟩) (fun c => by cases c)
  rw [nI_clamp (by omega)]
  have rv : M2 (c + 6 + secV T n (s, R)) sl = R (what + secV T n (s, R)) := by
    have hs := rc2.2.1 (secV T n (s, R)) (by omega)
    rcases hw with ⟨rfl, rfl⟩ | ⟨rfl, rfl⟩
    · exact hs.1
    · exact hs.2.1
  have nn : ∃ v, v ≤ 9 ∧ R (what + secV T n (s, R)) = nI v := by
    rcases hw with ⟨rfl, rfl⟩ | ⟨rfl, rfl⟩
    · exact wf.1.2.2.2.2.2.2.1 _ (by omega)
    · exact br _ (by omega)
  have w2' : Ws T n (pChk (decide (pe (sec1 T n (s, R)) ≠ 0) || decide (R (what + secV T n (s, R)) = 0)) 3 (sec1 T n (s, R))) := w1.look.chk (by decide)
  have w2 : Ws T n (sec2 T n what (s, R)) := w2'.adv
  have key : ∀ M3 : TM, FrT M2 M3 → PC M3 T n (sec2 T n what (s, R)) → fSecL c sl KV (nI (secV T n (s, R))) M3 := fun M3 f3 h3 => by
    unfold fSecL
    refine ⟨vp_in_nI (by omega) (by decide), ?_⟩
    refine c_readNumber h3 w2 (lo := 1) (hi := 9) rfl rfl (by decide) (by decide) (fun M4 f4 h4 => ?_)
    intro M5 e5
    rw [nI_clamp (by omega)] at e5
    have h5 : PC M5 T n (pNum T n 1 9 (sec2 T n what (s, R))) := h4.fr (by rw [e5, u2_n (by omega)]) (by rw [e5, u2_n (by omega)])
    refine c_readToken h5 w2.num (x' := 59) (kk := 5) rfl (Or.inl ⟨rfl, rfl⟩) (fun M6 f6 h6 => ?_)
    have fx : FrX c M M6 := ⟨fun i i1 i2 => by rw [f6.1 i i1, e5, u2_n (by omega), f4.1 i i1, f3.1 i i1, f2.1 i i1, f1.1 i i1], fun j hj => by rw [f6.2 j hj, e5, u2_n (by omega), f4.2 j hj, f3.2 j hj, f2.2 j hj, f1.2 j hj]⟩
    refine hK M6 fx h6 (fun he => ?_)
    unfold pSec
    dsimp only
    rw [if_pos he]
    have rc4 := (rc2.ft wf hc f3).ft wf hc f4
    have rs : RelC c M5 (upd R (what + secV T n (s, R)) (nI (pLv T 1 9 (sec2 T n what (s, R))))) := by
      rw [e5]
      exact rel_sec rc4 n0 o0 (by omega) (by omega)
    have rl := pLv_rng (T := T) (s := sec2 T n what (s, R)) (show 1 ≤ 9 by decide)
    exact rs.ft (wf_sec wf n0 o0 (by omega) (by omega) rl.2) hc f6
  rw [rv]
  obtain ⟨v, v9, ev⟩ := nn
  have pz : R (what + secV T n (s, R)) ≤ 0 ↔ R (what + secV T n (s, R)) = 0 := by
    rw [ev, show (0 : Int32) = nI 0 from rfl, nI_leI (by omega) (by decide), nI_eq (by omega) (by decide)]
    omega
  rw [pz]
  refine ⟨fun c1 => key M2 (FrT.refl _) ?_, fun c1 => ?_⟩
  · have : sec2 T n what (s, R) = pNum T n 0 (np R - 2) (pAdv T n s) := by
      unfold sec2
      dsimp only
      rw [decide_eq_true c1, Bool.or_true, pChk_T]
      rfl
    rw [this]
    exact h2
  · by_cases c2 : pe (sec1 T n (s, R)) = 0
    · refine c_failAt' h2 w1.num (code := 3) rfl m14 (by decide) (pAdv_ok.2 c2) (s' := sec2 T n what (s, R)) ?_ ?_ (fun M3 f3 h3 => key M3 f3 h3)
      · unfold sec2
        dsimp only
        rw [decide_eq_false c1, show decide (pe (sec1 T n (s, R)) ≠ 0) = false from decide_eq_false (fun h => h c2), Bool.or_false, pChk_F c2, pAdv_e (show (3 : Nat) ≠ 0 by decide)]
      · unfold sec2
        dsimp only
        rw [decide_eq_false c1, show decide (pe (sec1 T n (s, R)) ≠ 0) = false from decide_eq_false (fun h => h c2), Bool.or_false, pChk_F c2, pAdv_e (show (3 : Nat) ≠ 0 by decide)]
        exact pLook_pn.2.2
    · have e2 : sec2 T n what (s, R) = pNum T n 0 (np R - 2) (pAdv T n s) := by
        unfold sec2
        dsimp only
        rw [pChk_e c2]
        rfl
      have e3 : pe (pNum T n 0 (np R - 2) (pAdv T n s)) ≠ 0 := fun h => c2 (pAdv_ok.1 h)
      refine c_failAt h2 w1.num (code := 3) rfl (fun h => absurd h e3) (by decide) (fun M3 f3 h3 => key M3 f3 ?_)
      rw [pChk_e e3] at h3
      rw [e2]
      exact h3
/-- a barge, an order, the class's -/
theorem c_bar (hc : 27 ≤ c) (h0 : pWd T s 12 = true) (h : PC M T n s) (w : Ws T n s) (rc : RelC c M R) (wf : WF U R) (n5 : nb R < 5) (o0 : no R = 0) (fr : Fresh R) (hK : ∀ M', FrX c M M' → PC M' T n (bar6 T n (s, R)) → (pe (bar6 T n (s, R)) = 0 → RelC c M' (pBar T n (s, R)).2) → KV M') : f_X3_parseBarge c M KV := by
  unfold f_X3_parseBarge
  have n16 := wf.np16
  have n3 := wf.np3
  have hpe : pe s = 0 := by
    unfold pWd at h0
    rw [Bool.and_eq_true, Bool.and_eq_true, decide_eq_true_eq] at h0
    exact h0.1.1
  have b0 : bar0 T n (s, R) = s := by unfold bar0; dsimp only; rw [h0, pChk_T]
  have b1 : bar1 T n (s, R) = pAdv T n s := by
    unfold bar1
    rw [b0]
    dsimp only
    rw [decide_eq_true n5, Bool.or_true, pChk_T]
  refine c_adv h w hpe (fun M1 f1 h1 => ?_)
  rw [← b1] at h1
  have w1 : Ws T n (bar1 T n (s, R)) := by rw [b1]; exact w.adv
  have rc1 := rc.ft wf hc f1
  refine c_readNumber h1 w1 (lo := 0) (hi := np R - 1) rfl (by rw [rc1.1.1, wf.1.1.1.1, show (1 : Int32) = nI 1 from rfl, nI_sub (by omega)]) (by omega) (by omega) (fun M2 f2 h2 => ?_)
  have rg := pLv_rng (T := T) (s := bar1 T n (s, R)) (show 0 ≤ np R - 1 by omega)
  refine c_readNumber h2 w1.num (lo := 1) (hi := 9) rfl rfl (by decide) (by decide) (fun M3 f3 h3 => ?_)
  refine c_readNumber h3 w1.num.num (lo := 0) (hi := 99) rfl rfl (by decide) (by decide) (fun M4 f4 h4 => ?_)
  refine c_readNumber h4 w1.num.num.num (lo := 0) (hi := 99) rfl rfl (by decide) (by decide) (fun M5 f5 h5 => ?_)
  refine c_readToken h5 w1.num.num.num.num (x' := 59) (kk := 5) rfl (Or.inl ⟨rfl, rfl⟩) (fun M6 f6 h6 => ?_)
  have ft : FrT M M6 := ((f1.trans f2).trans (f3.trans f4)).trans (f5.trans f6)
  refine c_addBarge wf (rc.ft wf hc ft) n5 o0 fr (fun M7 f7 r7 => ?_)
  refine hK M7 ⟨fun i i1 i2 => by rw [f7 i i2, ft.1 i i1], fun j hj => by rw [f7 1 (by omega), ft.2 j hj]⟩ (h6.fr (f7 1 (by omega)) (f7 2 (by omega))) (fun he => ?_)
  unfold pBar
  dsimp only
  rw [if_pos he]
  exact r7
theorem c_ord (hc : 27 ≤ c) (h0 : pWd T s 1 = true) (h : PC M T n s) (w : Ws T n s) (rc : RelC c M R) (wf : WF U R) (n30 : no R < 30) (hK : ∀ M', FrX c M M' → PC M' T n (ord6 T n (s, R)) → (pe (ord6 T n (s, R)) = 0 → RelC c M' (pOrd T n (s, R)).2) → KV M') : f_X3_parseOrder c M KV := by
  unfold f_X3_parseOrder
  have n16 := wf.np16
  have n3 := wf.np3
  have hpe : pe s = 0 := by
    unfold pWd at h0
    rw [Bool.and_eq_true, Bool.and_eq_true, decide_eq_true_eq] at h0
    exact h0.1.1
  have b0 : ord0 T n (s, R) = s := by unfold ord0; dsimp only; rw [h0, pChk_T]
  have b1 : ord1 T n (s, R) = pAdv T n s := by
    unfold ord1
    rw [b0]
    dsimp only
    rw [decide_eq_true n30, Bool.or_true, pChk_T]
  refine c_adv h w hpe (fun M1 f1 h1 => ?_)
  rw [← b1] at h1
  have w1 : Ws T n (ord1 T n (s, R)) := by rw [b1]; exact w.adv
  have rc1 := rc.ft wf hc f1
  refine c_readNumber h1 w1 (lo := 0) (hi := np R - 1) rfl (by rw [rc1.1.1, wf.1.1.1.1, show (1 : Int32) = nI 1 from rfl, nI_sub (by omega)]) (by omega) (by omega) (fun M2 f2 h2 => ?_)
  have rg := pLv_rng (T := T) (s := ord1 T n (s, R)) (show 0 ≤ np R - 1 by omega)
  refine c_readNumber h2 w1.num (lo := 1) (hi := 4) rfl rfl (by decide) (by decide) (fun M3 f3 h3 => ?_)
  refine c_readNumber h3 w1.num.num (lo := 1) (hi := 6) rfl rfl (by decide) (by decide) (fun M4 f4 h4 => ?_)
  refine c_readNumber h4 w1.num.num.num (lo := 1) (hi := 500) rfl rfl (by decide) (by decide) (fun M5 f5 h5 => ?_)
  refine c_readToken h5 w1.num.num.num.num (x' := 59) (kk := 5) rfl (Or.inl ⟨rfl, rfl⟩) (fun M6 f6 h6 => ?_)
  have ft : FrT M M6 := ((f1.trans f2).trans (f3.trans f4)).trans (f5.trans f6)
  refine c_addOrder wf (rc.ft wf hc ft) (by unfold okO; rw [inR_nI (by omega) (by omega), decide_eq_true n30]; rfl) (fun M7 f7 r7 => ?_)
  refine hK M7 ⟨fun i i1 i2 => by rw [f7 i i2, ft.1 i i1], fun j hj => by rw [f7 1 (by omega), ft.2 j hj]⟩ (h6.fr (f7 1 (by omega)) (f7 2 (by omega))) (fun he => ?_)
  unfold pOrd
  dsimp only
  rw [if_pos he]
  exact r7
/-- the model's -/
theorem m_sec (hw : what = 10 ∨ what = 25) (hr : Rw M r) (hR : M r = R) (h : PM M T n s) (w : Ws T n s) (wf : WF U R) (e1 : p = nI what) (hK : ∀ M', FrN r M M' → PM M' T n (sec3 T n what (s, R)) → M' r = (pSec T n what (s, R)).2 → KV M') : f_X13_readSection p M KV := by
  subst e1
  unfold f_X13_readSection
  have n16 := wf.np16
  have n3 := wf.np3
  have r7 := hr.r7
  refine m_adv h w (fun M1 f1 h1 => ?_)
  have w1 := w.adv
  have hr1 := hr.fm (f1.toN r)
  have hR1 : M1 r = R := by rw [f1.1 r r7.1]; exact hR
  refine ⟨hr1.v' hR1, vv1, ?_⟩
  rw [hr1.rd' hR1 (x := 1) (i := 1) rfl (by decide), wf.1.1.1.1, show (2 : Int32) = nI 2 from rfl, nI_sub (by omega)]
  refine m_look h1 w1 (lo := 0) (hi := np R - 2) rfl rfl (by decide) (by omega) (fun M2 f2 h2 => ?_)
  have h2' : PM M2 T n (sec1 T n (s, R)) := h2
  have w1' : Ws T n (sec1 T n (s, R)) := w1.look
  have rng := pLv_rng (T := T) (s := pAdv T n s) (show 0 ≤ np R - 2 by omega)
  have hV : pLv T 0 (np R - 2) (pAdv T n s) = secV T n (s, R) := rfl
  rw [hV] at rng ⊢
  have hr2 := hr1.fm (f2.toN r)
  have hR2 : M2 r = R := by rw [f2.1 r r7.1]; exact hR1
  have he2 := w1'.2.1
  have key : ∀ x : Int32, x = bi (decide (pe (sec1 T n (s, R)) ≠ 0) || decide (R (what + secV T n (s, R)) = 0)) → f_X13_readSection_L42 (nI what) KV (nI what) (nI (secV T n (s, R))) x M2 := fun x ex => by
    unfold f_X13_readSection_L42
    refine m_check h2' w1' ex (code := 3) rfl (by decide) (fun M3 f3 h3 => ?_)
    have w3 : Ws T n (pChk (decide (pe (sec1 T n (s, R)) ≠ 0) || decide (R (what + secV T n (s, R)) = 0)) 3 (sec1 T n (s, R))) := w1'.chk (by decide)
    refine m_adv h3 w3 (fun M4 f4 h4 => ?_)
    have w4 : Ws T n (sec2 T n what (s, R)) := w3.adv
    have h4' : PM M4 T n (sec2 T n what (s, R)) := h4
    refine m_readNumber h4' w4 (lo := 1) (hi := 9) rfl rfl (by decide) (by decide) (fun M5 f5 h5 => ?_)
    refine m_expect h5 w4.num (x' := 59) rfl (by decide) (fun M6 f6 h6 => ?_)
    have w6 : Ws T n (sec3 T n what (s, R)) := w4.num.exp 59
    have h6' : PM M6 T n (sec3 T n what (s, R)) := h6
    have he6 := w6.2.1
    have ft : FrM M M6 := ((f1.trans f2).trans (f3.trans f4)).trans (f5.trans f6)
    have hr6 := hr.fm (ft.toN r)
    have hR6 : M6 r = R := by rw [ft.1 r r7.1]; exact hR
    rw [h6'.2.1, show (0 : Int32) = nI 0 from rfl, nI_eq (by omega) (by decide)]
    refine ⟨fun c1 => hK M6 (ft.toN r) h6' (by unfold pSec; dsimp only; rw [if_neg c1]; exact hR6), fun c1 => ?_⟩
    refine ⟨hr6.v' hR6, vlt (n := what + secV T n (s, R)) (nI_add _ _) (by omega) (by decide), ?_⟩
    intro M7 e7
    rw [hr6.cc hR6, nI_add, nI_clamp (by omega)] at e7
    refine hK M7 ((ft.toN r).trans ⟨fun i i1 i2 => by rw [e7, u2_n i2], fun j hj => by rw [e7, u2_n r7.1.symm]⟩) (h6'.fr (by rw [e7, u2_n r7.1.symm]) (by rw [e7, u2_n r7.2.symm])) ?_
    unfold pSec
    dsimp only
    rw [if_pos c1, e7, u2_id, uR_s, hR6]
  rw [h2'.2.1, show (0 : Int32) = nI 0 from rfl, nI_eq (by omega) (by decide)]
  refine ⟨fun c1 => key 1 (by rw [decide_eq_true c1]; rfl), fun c1 => ⟨hr2.v' hR2, vlt (n := what + secV T n (s, R)) (nI_add _ _) (by omega) (by decide), ?_⟩⟩
  rw [hr2.rd' hR2 (nI_add _ _) (by omega)]
  have c1' : decide (pe (sec1 T n (s, R)) ≠ 0) = false := decide_eq_false (fun h => h c1)
  exact ⟨fun c2 => key 0 (by rw [c1', Bool.false_or, show decide (R (what + secV T n (s, R)) = 0) = false from decide_eq_false c2]; rfl), fun c2 => key 1 (by rw [show decide (R (what + secV T n (s, R)) = 0) = true from decide_eq_true c2, Bool.or_true]; rfl)⟩
theorem m_bar (hr : Rw M r) (hR : M r = R) (h : PM M T n s) (w : Ws T n s) (wf : WF U R) (hK : ∀ M', FrN r M M' → PM M' T n (bar6 T n (s, R)) → M' r = (pBar T n (s, R)).2 → KV M') : f_X13_readBarge M KV := by
  unfold f_X13_readBarge
  have n16 := wf.np16
  have n3 := wf.np3
  have n5 := wf.nb5
  have r7 := hr.r7
  refine m_isWord h w (by decide) ?_
  refine m_check h w rfl (code := 1) rfl (by decide) (fun M1 f1 h1 => ?_)
  have w1 : Ws T n (bar0 T n (s, R)) := w.chk (by decide)
  have h1' : PM M1 T n (bar0 T n (s, R)) := h1
  have he1 := w1.2.1
  have hr1 := hr.fm (f1.toN r)
  have hR1 : M1 r = R := by rw [f1.1 r r7.1]; exact hR
  have key : ∀ x : Int32, x = bi (decide (pe (bar0 T n (s, R)) ≠ 0) || decide (nb R < 5)) → f_X13_readBarge_L35 KV x M1 := fun x ex => by
    unfold f_X13_readBarge_L35
    refine m_check h1' w1 ex (code := 4) rfl (by decide) (fun M2 f2 h2 => ?_)
    refine m_adv h2 (w1.chk (by decide)) (fun M3 f3 h3 => ?_)
    have w3 : Ws T n (bar1 T n (s, R)) := (w1.chk (by decide)).adv
    have h3' : PM M3 T n (bar1 T n (s, R)) := h3
    have ft3 : FrM M M3 := f1.trans (f2.trans f3)
    have hr3 := hr.fm (ft3.toN r)
    have hR3 : M3 r = R := by rw [ft3.1 r r7.1]; exact hR
    refine ⟨hr3.v' hR3, vv1, ?_⟩
    rw [hr3.rd' hR3 (x := 1) (i := 1) rfl (by decide), wf.1.1.1.1, show (1 : Int32) = nI 1 from rfl, nI_sub (by omega)]
    refine m_readNumber h3' w3 (lo := 0) (hi := np R - 1) rfl rfl (by decide) (by omega) (fun M4 f4 h4 => ?_)
    refine m_readNumber h4 w3.num (lo := 1) (hi := 9) rfl rfl (by decide) (by decide) (fun M5 f5 h5 => ?_)
    refine m_readNumber h5 w3.num.num (lo := 0) (hi := 99) rfl rfl (by decide) (by decide) (fun M6 f6 h6 => ?_)
    refine m_readNumber h6 w3.num.num.num (lo := 0) (hi := 99) rfl rfl (by decide) (by decide) (fun M7 f7 h7 => ?_)
    refine m_expect h7 w3.num.num.num.num (x' := 59) rfl (by decide) (fun M8 f8 h8 => ?_)
    have w8 : Ws T n (bar6 T n (s, R)) := w3.num.num.num.num.exp 59
    have h8' : PM M8 T n (bar6 T n (s, R)) := h8
    have he8 := w8.2.1
    have ft : FrM M M8 := ft3.trans ((f4.trans f5).trans ((f6.trans f7).trans f8))
    have hr8 := hr.fm (ft.toN r)
    have hR8 : M8 r = R := by rw [ft.1 r r7.1]; exact hR
    rw [h8'.2.1, show (0 : Int32) = nI 0 from rfl, nI_eq (by omega) (by decide)]
    refine ⟨fun c1 => hK M8 (ft.toN r) h8' (by unfold pBar; dsimp only; rw [if_neg c1]; exact hR8), fun c1 => ?_⟩
    have hn5 : nb R < 5 := by
      have q1 := pNum_ok (pNum_ok (pNum_ok (pNum_ok (pExp_ok c1)).1).1).1
      have q2 := (pChk_ok (pAdv_ok.1 q1.1) (by decide))
      have q3 := (pChk_ok (show pe (bar0 T n (s, R)) = 0 from q2.2.1) (by decide)).2.1
      have q4 := q2.1
      rw [show decide (pe (bar0 T n (s, R)) ≠ 0) = false from decide_eq_false (fun h => h q2.2.1), Bool.false_or] at q4
      exact of_decide_eq_true q4
    have fin := m_addBarge (KV := fun M20 => KV M20) (R := R) (p := nI (pLv T 0 (np R - 1) (bar1 T n (s, R)))) (h' := nI (pLv T 1 9 (bar2 T n (s, R)))) (f' := nI (pLv T 0 99 (bar3 T n (s, R)))) (w' := nI (pLv T 0 99 (bar4 T n (s, R)))) hr8 wf.ix hn5 (by
      refine hK _ ((ft.toN r).trans ⟨fun i i1 i2 => uR_n i2, fun j hj => by rw [uR_n r7.1.symm]⟩) (h8'.fr (uR_n r7.1.symm) (uR_n r7.2.symm)) ?_
      rw [uR_s]
      unfold pBar
      dsimp only
      rw [if_pos c1])
    rw [uR_self hR8] at fin
    exact fin
  rw [h1'.2.1, show (0 : Int32) = nI 0 from rfl, nI_eq (by omega) (by decide)]
  refine ⟨fun c1 => key 1 (by rw [decide_eq_true c1]; rfl), fun c1 => ⟨hr1.v' hR1, vv2, ?_⟩⟩
  rw [hr1.rd' hR1 (x := 2) (i := 2) rfl (by decide), wf.1.1.2.1.1, show (5 : Int32) = nI 5 from rfl, nI_leI (by decide) (by omega)]
  have c1' : decide (pe (bar0 T n (s, R)) ≠ 0) = false := decide_eq_false (fun h => h c1)
  exact ⟨fun c2 => key 0 (by rw [c1', Bool.false_or, decide_eq_false (by omega)]; rfl), fun c2 => key 1 (by rw [decide_eq_true (show nb R < 5 by omega), Bool.or_true]; rfl)⟩
theorem m_ord (hr : Rw M r) (hR : M r = R) (h : PM M T n s) (w : Ws T n s) (wf : WF U R) (hK : ∀ M', FrN r M M' → PM M' T n (ord6 T n (s, R)) → M' r = (pOrd T n (s, R)).2 → KV M') : f_X13_readOrder M KV := by
  unfold f_X13_readOrder
  have n16 := wf.np16
  have n3 := wf.np3
  have n30 := wf.no30
  have r7 := hr.r7
  refine m_isWord h w (by decide) ?_
  refine m_check h w rfl (code := 1) rfl (by decide) (fun M1 f1 h1 => ?_)
  have w1 : Ws T n (ord0 T n (s, R)) := w.chk (by decide)
  have h1' : PM M1 T n (ord0 T n (s, R)) := h1
  have he1 := w1.2.1
  have hr1 := hr.fm (f1.toN r)
  have hR1 : M1 r = R := by rw [f1.1 r r7.1]; exact hR
  have key : ∀ x : Int32, x = bi (decide (pe (ord0 T n (s, R)) ≠ 0) || decide (no R < 30)) → f_X13_readOrder_L35 KV x M1 := fun x ex => by
    unfold f_X13_readOrder_L35
    refine m_check h1' w1 ex (code := 4) rfl (by decide) (fun M2 f2 h2 => ?_)
    refine m_adv h2 (w1.chk (by decide)) (fun M3 f3 h3 => ?_)
    have w3 : Ws T n (ord1 T n (s, R)) := (w1.chk (by decide)).adv
    have h3' : PM M3 T n (ord1 T n (s, R)) := h3
    have ft3 : FrM M M3 := f1.trans (f2.trans f3)
    have hr3 := hr.fm (ft3.toN r)
    have hR3 : M3 r = R := by rw [ft3.1 r r7.1]; exact hR
    refine ⟨hr3.v' hR3, vv1, ?_⟩
    rw [hr3.rd' hR3 (x := 1) (i := 1) rfl (by decide), wf.1.1.1.1, show (1 : Int32) = nI 1 from rfl, nI_sub (by omega)]
    refine m_readNumber h3' w3 (lo := 0) (hi := np R - 1) rfl rfl (by decide) (by omega) (fun M4 f4 h4 => ?_)
    refine m_readNumber h4 w3.num (lo := 1) (hi := 4) rfl rfl (by decide) (by decide) (fun M5 f5 h5 => ?_)
    refine m_readNumber h5 w3.num.num (lo := 1) (hi := 6) rfl rfl (by decide) (by decide) (fun M6 f6 h6 => ?_)
    refine m_readNumber h6 w3.num.num.num (lo := 1) (hi := 500) rfl rfl (by decide) (by decide) (fun M7 f7 h7 => ?_)
    refine m_expect h7 w3.num.num.num.num (x' := 59) rfl (by decide) (fun M8 f8 h8 => ?_)
    have w8 : Ws T n (ord6 T n (s, R)) := w3.num.num.num.num.exp 59
    have h8' : PM M8 T n (ord6 T n (s, R)) := h8
    have he8 := w8.2.1
    have ft : FrM M M8 := ft3.trans ((f4.trans f5).trans ((f6.trans f7).trans f8))
    have hr8 := hr.fm (ft.toN r)
    have hR8 : M8 r = R := by rw [ft.1 r r7.1]; exact hR
    rw [h8'.2.1, show (0 : Int32) = nI 0 from rfl, nI_eq (by omega) (by decide)]
    refine ⟨fun c1 => hK M8 (ft.toN r) h8' (by unfold pOrd; dsimp only; rw [if_neg c1]; exact hR8), fun c1 => ?_⟩
    have hn5 : no R < 30 := by
      have q1 := pNum_ok (pNum_ok (pNum_ok (pNum_ok (pExp_ok c1)).1).1).1
      have q2 := (pChk_ok (pAdv_ok.1 q1.1) (by decide))
      have q4 := q2.1
      rw [show decide (pe (ord0 T n (s, R)) ≠ 0) = false from decide_eq_false (fun h => h q2.2.1), Bool.false_or] at q4
      exact of_decide_eq_true q4
    have fin := m_addOrder (KV := fun M20 => KV M20) (R := R) (p := nI (pLv T 0 (np R - 1) (ord1 T n (s, R)))) (bo := nI (pLv T 1 4 (ord2 T n (s, R)))) (pu := nI (pLv T 1 6 (ord3 T n (s, R)))) (mi := nI (pLv T 1 500 (ord4 T n (s, R)))) hr8 wf.ix hn5 (by
      refine hK _ ((ft.toN r).trans ⟨fun i i1 i2 => uR_n i2, fun j hj => by rw [uR_n r7.1.symm]⟩) (h8'.fr (uR_n r7.1.symm) (uR_n r7.2.symm)) ?_
      rw [uR_s]
      unfold pOrd
      dsimp only
      rw [if_pos c1])
    rw [uR_self hR8] at fin
    exact fin
  rw [h1'.2.1, show (0 : Int32) = nI 0 from rfl, nI_eq (by omega) (by decide)]
  refine ⟨fun c1 => key 1 (by rw [decide_eq_true c1]; rfl), fun c1 => ⟨hr1.v' hR1, vv3, ?_⟩⟩
  rw [hr1.rd' hR1 (x := 3) (i := 3) rfl (by decide), wf.1.1.2.2.1, show (30 : Int32) = nI 30 from rfl, nI_leI (by decide) (by omega)]
  have c1' : decide (pe (ord0 T n (s, R)) ≠ 0) = false := decide_eq_false (fun h => h c1)
  exact ⟨fun c2 => key 0 (by rw [c1', Bool.false_or, decide_eq_false (by omega)]; rfl), fun c2 => key 1 (by rw [decide_eq_true (show no R < 30 by omega), Bool.or_true]; rfl)⟩
end ITEMS
