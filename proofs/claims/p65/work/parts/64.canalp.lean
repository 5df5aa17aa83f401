/-! the reader of a canal, as a function; what it does to a row -/
def aBarge (R : Nat → Int32) (p h f w : Int32) : Nat → Int32 := upd (sB (sB (sB (sB (sB (upd R 2 (R 2 + 1)) (nb R) 0 p) (nb R) 1 p) (nb R) 2 h) (nb R) 3 f) (nb R) 4 w) 7 (R 7 + w)
def Fresh (R : Nat → Int32) : Prop := ∀ b, nb R ≤ b → b < 5 → bg R b 5 = 0 ∧ bg R b 6 = 0
abbrev PR := PS × (Nat → Int32)
def sec1 (T : Nat → Nat) (n : Nat) (x : PR) : PS := pLook T 0 (np x.2 - 2) (pAdv T n x.1)
def secV (T : Nat → Nat) (n : Nat) (x : PR) : Nat := pLv T 0 (np x.2 - 2) (pAdv T n x.1)
def sec2 (T : Nat → Nat) (n what : Nat) (x : PR) : PS := pAdv T n (pChk (decide (pe (sec1 T n x) ≠ 0) || decide (x.2 (what + secV T n x) = 0)) 3 (sec1 T n x))
def sec3 (T : Nat → Nat) (n what : Nat) (x : PR) : PS := pExp T n 59 (pNum T n 1 9 (sec2 T n what x))
def pSec (T : Nat → Nat) (n what : Nat) (x : PR) : PR := (sec3 T n what x, if pe (sec3 T n what x) = 0 then upd x.2 (what + secV T n x) (nI (pLv T 1 9 (sec2 T n what x))) else x.2)
def bar0 (T : Nat → Nat) (n : Nat) (x : PR) : PS := pChk (pWd T x.1 12) 1 x.1
def bar1 (T : Nat → Nat) (n : Nat) (x : PR) : PS := pAdv T n (pChk (decide (pe (bar0 T n x) ≠ 0) || decide (nb x.2 < 5)) 4 (bar0 T n x))
def bar2 (T : Nat → Nat) (n : Nat) (x : PR) : PS := pNum T n 0 (np x.2 - 1) (bar1 T n x)
def bar3 (T : Nat → Nat) (n : Nat) (x : PR) : PS := pNum T n 1 9 (bar2 T n x)
def bar4 (T : Nat → Nat) (n : Nat) (x : PR) : PS := pNum T n 0 99 (bar3 T n x)
def bar5 (T : Nat → Nat) (n : Nat) (x : PR) : PS := pNum T n 0 99 (bar4 T n x)
def bar6 (T : Nat → Nat) (n : Nat) (x : PR) : PS := pExp T n 59 (bar5 T n x)
def pBar (T : Nat → Nat) (n : Nat) (x : PR) : PR := (bar6 T n x, if pe (bar6 T n x) = 0 then aBarge x.2 (nI (pLv T 0 (np x.2 - 1) (bar1 T n x))) (nI (pLv T 1 9 (bar2 T n x))) (nI (pLv T 0 99 (bar3 T n x))) (nI (pLv T 0 99 (bar4 T n x))) else x.2)
def ord0 (T : Nat → Nat) (n : Nat) (x : PR) : PS := pChk (pWd T x.1 1) 1 x.1
def ord1 (T : Nat → Nat) (n : Nat) (x : PR) : PS := pAdv T n (pChk (decide (pe (ord0 T n x) ≠ 0) || decide (no x.2 < 30)) 4 (ord0 T n x))
def ord2 (T : Nat → Nat) (n : Nat) (x : PR) : PS := pNum T n 0 (np x.2 - 1) (ord1 T n x)
def ord3 (T : Nat → Nat) (n : Nat) (x : PR) : PS := pNum T n 1 4 (ord2 T n x)
def ord4 (T : Nat → Nat) (n : Nat) (x : PR) : PS := pNum T n 1 6 (ord3 T n x)
def ord5 (T : Nat → Nat) (n : Nat) (x : PR) : PS := pNum T n 1 500 (ord4 T n x)
def ord6 (T : Nat → Nat) (n : Nat) (x : PR) : PS := pExp T n 59 (ord5 T n x)
def pOrd (T : Nat → Nat) (n : Nat) (x : PR) : PR := (ord6 T n x, if pe (ord6 T n x) = 0 then aOrder x.2 (nI (pLv T 0 (np x.2 - 1) (ord1 T n x))) (nI (pLv T 1 4 (ord2 T n x))) (nI (pLv T 1 6 (ord3 T n x))) (nI (pLv T 1 500 (ord4 T n x))) else x.2)
def lp {α : Type} (c : α → Bool) (g : α → α) : Nat → α → α
  | 0, a => a
  | f + 1, a => if c a = true then lp c g f (g a) else a
def cS (T : Nat → Nat) (x : PR) : Bool := pWd T x.1 10 || pWd T x.1 11
def gS (T : Nat → Nat) (n : Nat) (x : PR) : PR := if pWd T x.1 10 = true then pSec T n 10 x else pSec T n 25 x
def cB (T : Nat → Nat) (x : PR) : Bool := pWd T x.1 12
def cO (x : PR) : Bool := decide (pe x.1 = 0) && decide (pk x.1 ≠ 0)
def hd1 (T : Nat → Nat) (n : Nat) (s : PS) : PS := pAdv T n (pChk (pWd T s 9) 1 s)
def hd2 (T : Nat → Nat) (n : Nat) (s : PS) : PS := pExp T n 59 (pNum T n 3 16 (hd1 T n s))
def pCan0 (T : Nat → Nat) (n : Nat) (x : PR) : PR := (hd2 T n x.1, Zr x.2 (nI (pLv T 3 16 (hd1 T n x.1))))
def pCan1 (T : Nat → Nat) (n : Nat) (x : PR) : PR := lp (cS T) (gS T n) 501 (pCan0 T n x)
def pCan2 (T : Nat → Nat) (n : Nat) (x : PR) : PR := lp (cB T) (pBar T n) 501 (pBar T n (pCan1 T n x))
def pCan (T : Nat → Nat) (n : Nat) (x : PR) : PR := lp cO (pOrd T n) 501 (pCan2 T n x)
section CANALP
variable {c' : Bool} variable {i : Nat} {M M' : TM} {T : Nat → Nat} {n : Nat} {s : PS} {K : Int32 → TM → Prop} {KV : TM → Prop} {p q u v w' h' f' : Int32} {R R' : Nat → Int32} {a b c d e f j k m x' lo hi code U r : Nat}
/-- errors stay -/
theorem pNum_e (h : pe s ≠ 0) : pNum T n lo hi s = s := by
  unfold pNum pLook
  rw [pChk_e (by rw [pChk_e h]; exact h), pChk_e h, pAdv_e h]
theorem pExp_e (h : pe s ≠ 0) : pExp T n x' s = s := by
  unfold pExp
  rw [pChk_e h, pAdv_e h]
theorem pChk_ok (h : pe (pChk c' code s) = 0) (hc : code ≠ 0) : c' = true ∧ pe s = 0 ∧ pChk c' code s = s := by
  by_cases h0 : pe s = 0
  · cases c' with
    | true => exact ⟨rfl, h0, pChk_T⟩
    | false => rw [pChk_F h0] at h; exact absurd h hc
  · rw [pChk_e h0] at h; exact absurd h h0
theorem pAdv_ok : pe (pAdv T n s) = 0 ↔ pe s = 0 := by
  unfold pAdv
  split
  · rename_i h; exact ⟨fun _ => h, fun _ => rfl⟩
  · exact Iff.rfl
theorem pLook_ok (h : pe (pLook T lo hi s) = 0) : pe s = 0 ∧ pk s = 2 ∧ lo ≤ pVal T s ∧ pVal T s ≤ hi ∧ pLook T lo hi s = s ∧ pLv T lo hi s = pVal T s := by
  have h' := h
  unfold pLook at h
  obtain ⟨c1, h1, e1⟩ := pChk_ok h (by decide)
  obtain ⟨c2, h2, e2⟩ := pChk_ok h1 (by decide)
  have c1 := of_decide_eq_true c1
  refine ⟨h2, of_decide_eq_true c2, c1.1, c1.2, by unfold pLook; rw [e1, e2], ?_⟩
  unfold pLv
  rw [if_pos h']
theorem pLv_rng (hl : lo ≤ hi) : lo ≤ pLv T lo hi s ∧ pLv T lo hi s ≤ hi := by
  unfold pLv
  split
  · rename_i h
    obtain ⟨h1, h2, h3, h4, h5, h6⟩ := pLook_ok h
    exact ⟨h3, h4⟩
  · exact ⟨Nat.le_refl _, hl⟩
theorem pNum_ok (h : pe (pNum T n lo hi s) = 0) : pe s = 0 ∧ pk s = 2 := by
  unfold pNum at h
  have h2 := pLook_ok (pAdv_ok.1 h)
  exact ⟨h2.1, h2.2.1⟩
theorem pExp_ok (h : pe (pExp T n x' s) = 0) : pe s = 0 := by
  unfold pExp at h
  exact (pChk_ok (pAdv_ok.1 h) (by decide)).2.1
/-- reading goes forward -/
theorem pAdv_le (w : Ws T n s) : pn s ≤ pn (pAdv T n s) := by
  unfold pAdv
  split
  · show pn s ≤ scE T n (pn s)
    have h1 := (run_spec isSp T n (pn s)).1
    have t : Tok T n (scB T n (pn s)) (scE T n (pn s)) (scK T n (pn s)) := ⟨pn s, w.2.2.le.2.1, rfl, rfl, rfl⟩
    have h2 := t.le.1
    have e : scB T n (pn s) = run isSp T n (pn s) := rfl
    omega
  · exact Nat.le_refl _
theorem pAdv_lt (w : Ws T n s) (h0 : pe s = 0) (hk : pk (pAdv T n s) ≠ 0) : pn s < pn (pAdv T n s) := by
  rw [pAdv_0 h0] at hk ⊢
  show pn s < scE T n (pn s)
  have h1 := (run_spec isSp T n (pn s)).1
  have t : Tok T n (scB T n (pn s)) (scE T n (pn s)) (scK T n (pn s)) := ⟨pn s, w.2.2.le.2.1, rfl, rfl, rfl⟩
  have h2 := (t.le.2.2.2.2 hk).2
  have e : scB T n (pn s) = run isSp T n (pn s) := rfl
  omega
theorem pChk_pn (c' : Bool) (code : Nat) (s : PS) : pn (pChk c' code s) = pn s ∧ pk (pChk c' code s) = pk s ∧ pb (pChk c' code s) = pb s := by
  unfold pChk
  split <;> exact ⟨rfl, rfl, rfl⟩
theorem pLook_pn : pn (pLook T lo hi s) = pn s ∧ pk (pLook T lo hi s) = pk s ∧ pb (pLook T lo hi s) = pb s := by
  unfold pLook
  have h1 := pChk_pn (decide (lo ≤ pVal T s ∧ pVal T s ≤ hi)) 2 (pChk (decide (pk s = 2)) 1 s)
  have h2 := pChk_pn (decide (pk s = 2)) 1 s
  exact ⟨h1.1.trans h2.1, h1.2.1.trans h2.2.1, h1.2.2.trans h2.2.2⟩
theorem pNum_le (w : Ws T n s) : pn s ≤ pn (pNum T n lo hi s) := by
  have := pAdv_le (w.look (lo := lo) (hi := hi))
  rw [pLook_pn.1] at this
  exact this
theorem pExp_le (w : Ws T n s) : pn s ≤ pn (pExp T n x' s) := by
  have := pAdv_le (w.chk (c := pSym T s x') (code := 1) (by decide))
  rw [(pChk_pn _ _ _).1] at this
  exact this
/-- the row behind a new lock or bridge -/
theorem who0 (h : nb R = 0) : who R v = -1 := by unfold who; rw [h]; rfl
theorem wf_sec (w : WF U R) (h0 : nb R = 0) (hn : no R = 0) (hj : j < 15) (hw : k = 10 ∨ k = 25) (hm : m ≤ 9) : WF U (upd R (k + j) (nI m)) := by
  have g : ∀ i, i < 9 ∨ 40 ≤ i → upd R (k + j) (nI m) i = R i := fun i hi => up_n (by omega)
  have nb' : nb (upd R (k + j) (nI m)) = 0 := by unfold nb; rw [g _ (by omega)]; exact h0
  have no' : no (upd R (k + j) (nI m)) = 0 := by unfold no; rw [g _ (by omega)]; exact hn
  have np' : np (upd R (k + j) (nI m)) = np R := by unfold np; rw [g _ (by omega)]
  obtain ⟨⟨⟨⟨a1, a2⟩, ⟨a3, a4⟩, a5, a6⟩, a7, a8, a9, a10, a11, a12, a13⟩, -⟩ := w
  refine ⟨⟨⟨⟨by rw [g _ (by omega), np']; exact a1, by rw [np']; exact a2⟩, ⟨by rw [g _ (by omega), nb', ← h0]; exact a3, by rw [nb']; decide⟩, by rw [g _ (by omega), no', ← hn]; exact a5, by rw [no']; decide⟩, by rw [np']; exact a7, trivial, by rw [g _ (by omega)]; exact a9, by rw [g _ (by omega)]; exact a10, ?_, fun i hi => ?_, fun i h1 h2 => by rw [np'] at h1; rw [g _ (by omega), g _ (by omega)]; exact a13 i h1 h2⟩, fun b hb => by omega, fun o ho => by omega, fun b d hb => by omega, fun b hb => by omega, fun x y hx => by omega⟩
  · rw [g _ (by omega), a11]
    unfold cIn
    rw [no', hn]
    rfl
  · by_cases e : 10 + i = k + j
    · rw [e, up_s]; exact ⟨m, hm, rfl⟩
    · rw [up_n e]; exact a12 i hi
theorem rel_sec (h : RelC c M R) (h0 : nb R = 0) (hn : no R = 0) (hj : j < 15) (hw : (k = 10 ∧ f = 0) ∨ (k = 25 ∧ f = 1)) : RelC c (u2 M (c + 6 + j) f v) (upd R (k + j) v) := by
  have g : ∀ i, i < 9 ∨ 40 ≤ i → upd R (k + j) v i = R i := fun i hi => up_n (by omega)
  have nb' : nb (upd R (k + j) v) = 0 := by unfold nb; rw [g _ (by omega)]; exact h0
  have no' : no (upd R (k + j) v) = 0 := by unfold no; rw [g _ (by omega)]; exact hn
  refine ⟨?_, fun i hi => ?_, fun i hi => ?_, fun b hb => by omega, fun b hb => by omega, fun o ho => by omega⟩
  · have hs := h.1
    unfold Sc at hs ⊢
    rw [u2_n (by omega), g _ (by omega), g _ (by omega), g _ (by omega), g _ (by omega), g _ (by omega), g _ (by omega), g _ (by omega), g _ (by omega), show cIn (upd R (k + j) v) 3 = cIn R 3 by unfold cIn; rw [no', hn]; rfl]
    exact hs
  · have hs := h.2.1 i hi
    unfold Se at hs ⊢
    rw [who0 nb']
    rw [who0 h0] at hs
    by_cases e : i = j
    · subst e
      rcases hw with ⟨rfl, rfl⟩ | ⟨rfl, rfl⟩
      · rw [up_s, up_n (by omega), u2_s, u2_f (by decide), u2_f (by decide)]
        exact ⟨rfl, hs.2.1, hs.2.2⟩
      · rw [up_s, up_n (by omega), u2_s, u2_f (by decide), u2_f (by decide)]
        exact ⟨hs.1, rfl, hs.2.2⟩
    · rw [up_n (by omega), up_n (by omega), u2_n (by omega)]
      exact hs
  · rw [u2_n (by omega), u2_n (by omega), g _ (by omega), g _ (by omega)]
    exact h.2.2.1 i hi
/-- the row behind a new barge -/
theorem aB_i (h : i < 72 ∨ 107 ≤ i) (h2 : i ≠ 2) (h7 : i ≠ 7) (hn : nb R < 5) : aBarge R p h' f' w' i = R i := by simp (disch := omega) only [aBarge, sB, up_n]
theorem aB_b (hd : d ≠ nb R) (hf : f < 7) (hn : nb R < 5) : bg (aBarge R p h' f' w') d f = bg R d f := by
  simp (disch := omega) only [aBarge, bg, sB, up_n]
theorem aB_f (R : Nat → Int32) (p h' f' w' : Int32) : bg (aBarge R p h' f' w') (nb R) 0 = p ∧ bg (aBarge R p h' f' w') (nb R) 1 = p ∧ bg (aBarge R p h' f' w') (nb R) 2 = h' ∧ bg (aBarge R p h' f' w') (nb R) 3 = f' ∧ bg (aBarge R p h' f' w') (nb R) 4 = w' ∧ bg (aBarge R p h' f' w') (nb R) 5 = bg R (nb R) 5 ∧ bg (aBarge R p h' f' w') (nb R) 6 = bg R (nb R) 6 := by
  refine ⟨?_, ?_, ?_, ?_, ?_, ?_, ?_⟩ <;> simp (disch := omega) only [aBarge, bg, sB, up_n, up_s]
theorem aB_2 (w : WF U R) (hn : nb R < 5) : aBarge R p h' f' w' 2 = nI (nb R + 1) := by
  have e : aBarge R p h' f' w' 2 = R 2 + 1 := by simp (disch := omega) only [aBarge, sB, up_n, up_s]
  rw [e, w.1.1.2.1.1, nI_1]
theorem aB_nb (w : WF U R) (hn : nb R < 5) : nb (aBarge R p h' f' w') = nb R + 1 := by
  show (aBarge R p h' f' w' 2).toNatClampNeg = _
  rw [aB_2 w hn, nI_clamp (by omega)]
theorem aB_no (hn : nb R < 5) : no (aBarge R p h' f' w') = no R := by unfold no; rw [aB_i (by omega) (by decide) (by decide) hn]
theorem aB_Fresh (w : WF U R) (hn : nb R < 5) (hf : Fresh R) : Fresh (aBarge R p h' f' w') := by
  intro b hb h5
  rw [aB_nb w hn] at hb
  rw [aB_b (by omega) (by decide) hn, aB_b (by omega) (by decide) hn]
  exact hf b (by omega) h5
theorem wf_barge (w : WF U R) (hn : nb R < 5) (h0 : no R = 0) (hf : Fresh R) (hp : a < np R) : WF U (aBarge R (nI a) h' f' w') := by
  have gI : ∀ i, i < 72 → i ≠ 2 → i ≠ 7 → aBarge R (nI a) h' f' w' i = R i := fun i h1 h2 h7 => aB_i (Or.inl h1) h2 h7 hn
  have no' : no (aBarge R (nI a) h' f' w') = 0 := by rw [aB_no hn]; exact h0
  have np' : np (aBarge R (nI a) h' f' w') = np R := by unfold np; rw [gI 1 (by decide) (by decide) (by decide)]
  have n16 := w.np16
  obtain ⟨f0, f1, f2, f3, f4, f5, f6⟩ := aB_f R (nI a) h' f' w'
  have b6 : bg (aBarge R (nI a) h' f' w') (nb R) 6 = 0 := by rw [f6]; exact (hf (nb R) (Nat.le_refl _) hn).2
  have lk : inL (aBarge R (nI a) h' f' w') (nb R) = false := by unfold inL; rw [b6]; decide
  have same : ∀ d, d ≠ nb R → inL (aBarge R (nI a) h' f' w') d = inL R d ∧ ahead (aBarge R (nI a) h' f' w') d = ahead R d := fun d hd => by
    unfold inL ahead
    rw [aB_b hd (by decide) hn, aB_b hd (by decide) hn, aB_b hd (by decide) hn]
    exact ⟨rfl, rfl⟩
  obtain ⟨⟨⟨⟨a1, a2⟩, ⟨a3, a4⟩, a5, a6⟩, a7, a8, a9, a10, a11, a12, a13⟩, b1, b2, b3, b4, b5⟩ := id w
  refine ⟨⟨⟨⟨by rw [gI 1 (by decide) (by decide) (by decide), np']; exact a1, by rw [np']; exact a2⟩, ⟨by rw [aB_2 w hn, aB_nb w hn], by rw [aB_nb w hn]; omega⟩, by rw [gI 3 (by decide) (by decide) (by decide), no', ← h0]; exact a5, by rw [no']; decide⟩, by rw [np']; exact a7, trivial, by rw [gI 0 (by decide) (by decide) (by decide)]; exact a9, by rw [gI 8 (by decide) (by decide) (by decide)]; exact a10, ?_, fun i hi => by rw [gI _ (by omega) (by omega) (by omega)]; exact a12 i hi, fun i h1 h2 => by rw [np'] at h1; rw [gI _ (by omega) (by omega) (by omega), gI _ (by omega) (by omega) (by omega)]; exact a13 i h1 h2⟩, fun d hd => ?_, fun o ho => by omega, fun x y hx hy lx ly e => ?_, fun d hd => ?_, fun x y hx => by omega⟩
  · rw [gI 6 (by decide) (by decide) (by decide), a11]
    unfold cIn
    rw [no', h0]
    rfl
  · rw [aB_nb w hn] at hd
    by_cases e : d = nb R
    · subst e
      exact ⟨a, a, 0, by rw [np']; exact hp, by rw [np']; exact hp, by decide, f0, f1, b6, fun h => absurd rfl h⟩
    · exact (b1 d (by omega)).congr (gI 1 (by decide) (by decide) (by decide)) (fun f hf => aB_b e hf hn)
  · rw [aB_nb w hn] at hx hy
    have ex : x ≠ nb R := fun e => by rw [e, lk] at lx; cases lx
    have ey : y ≠ nb R := fun e => by rw [e, lk] at ly; cases ly
    rw [(same x ex).1] at lx
    rw [(same y ey).1] at ly
    rw [(same x ex).2, (same y ey).2] at e
    exact b3 x y (by omega) (by omega) lx ly e
  · unfold held
    rw [no']
    exact Nat.zero_le _
theorem c_addBarge (w : WF U R) (h : RelC c M R) (hn : nb R < 5) (h0 : no R = 0) (hf : Fresh R) (hK : ∀ M', FrC c M M' → RelC c M' (aBarge R p h' f' w') → KV M') : f_X2_addBarge c p h' f' w' M KV := by
  unfold f_X2_addBarge
  rw [h.1.2.1, w.1.1.2.1.1]
  refine cN' (nI_ge (b := 5) hn (by decide)) ⟨vp_in_nI hn (by decide), ?_⟩
  rw [nI_clamp (by omega)]
  unfold f_X1_reset
  intro M1 e1 M2 e2 M3 e3 M4 e4 M5 e5 M6 e6 M7 e7 M8 e8 M9 e9 M10 e10
  subst e10; subst e9; subst e8; subst e7; subst e6; subst e5; subst e4; subst e3; subst e2; subst e1
  refine hK _ (fun i hi => by simp (disch := omega) only [uR_n]) ?_
  obtain ⟨f0, f1, f2, f3, f4, f5, f6⟩ := aB_f R p h' f' w'
  have fr := hf (nb R) (Nat.le_refl _) hn
  have gI : ∀ i, i < 72 → i ≠ 2 → i ≠ 7 → aBarge R p h' f' w' i = R i := fun i h1 h2 h7 => aB_i (Or.inl h1) h2 h7 hn
  have no' : no (aBarge R p h' f' w') = 0 := by rw [aB_no hn]; exact h0
  have ww : ∀ s, who (aBarge R p h' f' w') s = who R s := fun s => by
    have lk : inL (aBarge R p h' f' w') (nb R) = false := by unfold inL; rw [f6, fr.2]; decide
    have same : ∀ d, d ≠ nb R → inL (aBarge R p h' f' w') d = inL R d ∧ ahead (aBarge R p h' f' w') d = ahead R d := fun d hd => by
      unfold inL ahead
      rw [aB_b hd (by decide) hn, aB_b hd (by decide) hn, aB_b hd (by decide) hn]
      exact ⟨rfl, rfl⟩
    unfold who
    rw [aB_nb w hn]
    rcases ff_cases (fun b => inL R b && decide (ahead R b = s)) (nb R) with ⟨q1, q2⟩ | ⟨k, q1, q2, q3, q4⟩
    · rw [q1, ff_none (fun j hj => ?_)]
      by_cases e : j = nb R
      · rw [e, lk, Bool.false_and]
      · rw [(same j e).1, (same j e).2]; exact q2 j (by omega)
    · rw [q2, ff_some (k := k) (by omega) (by rw [(same k (by omega)).1, (same k (by omega)).2]; exact q3) (fun j hj => by rw [(same j (by omega)).1, (same j (by omega)).2]; exact q4 j hj)]
  refine ⟨?_, fun i hi => (h.2.1 i hi).congr (by simp (disch := omega) only [uR_n]) (gI _ (by omega) (by omega) (by omega)) (gI _ (by omega) (by omega) (by omega)) (ww _), fun i hi => ?_, fun d hd => ?_, fun d hd => ?_, fun o ho => by omega⟩
  · have hs := h.1
    unfold Sc at hs ⊢
    rw [aB_2 w hn, gI 0 (by decide) (by decide) (by decide), gI 1 (by decide) (by decide) (by decide), gI 3 (by decide) (by decide) (by decide), gI 4 (by decide) (by decide) (by decide), gI 5 (by decide) (by decide) (by decide), gI 6 (by decide) (by decide) (by decide), show aBarge R p h' f' w' 7 = R 7 + w' from up_s _ _ _, show cIn (aBarge R p h' f' w') 3 = cIn R 3 by unfold cIn; rw [no', h0]; rfl]
    simp (disch := omega) only [uR_n, uR_s, up_n, up_s]
    rw [hs.2.1, w.1.1.2.1.1, nI_1, hs.2.2.2.2.2.1]
    exact ⟨hs.1, rfl, hs.2.2.1, hs.2.2.2.1, hs.2.2.2.2.1, rfl, hs.2.2.2.2.2.2⟩
  · rw [gI _ (by omega) (by omega) (by omega), gI _ (by omega) (by omega) (by omega)]
    simp (disch := omega) only [uR_n]
    exact h.2.2.1 i hi
  · rw [aB_nb w hn] at hd
    by_cases e : d = nb R
    · subst e
      unfold Ba
      rw [f0, f1, f2, f3, f4, f5, f6, fr.1, fr.2]
      simp (disch := omega) only [uR_n, uR_s, up_n, up_s]
      exact ⟨trivial, trivial, trivial, trivial, trivial, trivial, trivial⟩
    · exact (h.2.2.2.1 d (by omega)).congr (by simp (disch := omega) only [uR_n]) (fun f hf => aB_b e hf hn)
  · rw [aB_nb w hn] at hd
    have so : SOr R (aBarge R p h' f' w') := ⟨gI 3 (by decide) (by decide) (by decide), fun o ho => by omega⟩
    by_cases e : d = nb R
    · subst e
      refine ⟨[], ⟨List.Pairwise.nil, fun o => ?_⟩, ?_, fun i hi => absurd hi (Nat.not_lt_zero _)⟩
      · rw [no']
        exact ⟨fun h => (by cases h), fun h => (by omega)⟩
      · simp (disch := omega) only [uR_n, uR_s, up_s]
        rfl
    · exact (h.2.2.2.2.1 d (by omega)).congr (by simp (disch := omega) only [uR_n]) (by simp (disch := omega) only [uR_n]) (fun l hl => so.isQ hl)
theorem m_addBarge (hr : Rw M r) (ix : Ix R) (hn : nb R < 5) (h : KV (uR M r (aBarge R p h' f' w'))) : f_X13_addBarge p h' f' w' (uR M r R) KV := by
  unfold f_X13_addBarge
  rw [hr.nb ix]
  refine ⟨hr.v _, vv2, hr.v _, vv2, vv2, ?_⟩
  intro M6 e6
  rw [hr.c, li2, u2_uR, ← ix.2.1.1] at e6
  rw [e6]
  refine m_lay hr rfl (f := 0) rfl hn (by decide) ?_
  refine m_lay hr rfl (f := 1) rfl hn (by decide) ?_
  refine m_lay hr rfl (f := 2) rfl hn (by decide) ?_
  refine m_lay hr rfl (f := 3) rfl hn (by decide) ?_
  refine m_lay hr rfl (f := 4) rfl hn (by decide) ?_
  refine ⟨hr.v _, vv7, vv7, ?_⟩
  intro M15 e15
  rw [hr.rd (x := 7) (i := 7) rfl (by decide), hr.c, show ((7 : Int32)).toNatClampNeg = 7 from rfl, u2_uR, show (sB (sB (sB (sB (sB (upd R 2 (R 2 + 1)) (nb R) 0 p) (nb R) 1 p) (nb R) 2 h') (nb R) 3 f') (nb R) 4 w') 7 = R 7 by simp (disch := omega) only [sB, up_n]] at e15
  rw [e15]
  exact h
end CANALP
