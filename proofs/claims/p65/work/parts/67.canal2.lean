/-! a whole canal is read: orders, the model's loops, the whole -/
section CANAL2
variable {c' : Bool} {i : Nat} {M M1 M' : TM} {T : Nat → Nat} {n : Nat} {s : PS} {x y : PR} {K : Int32 → TM → Prop} {KV : TM → Prop} {p q u v : Int32} {R R' : Nat → Int32} {a b c d e f j k m x' lo hi code U r sl what : Nat}
theorem lp_T {α : Type} {g : α → Bool} {h : α → α} {f : Nat} {x : α} (e : g x = true) : lp g h (f + 1) x = lp g h f (h x) := by
  show (if g x = true then lp g h f (h x) else x) = _
  rw [if_pos e]
theorem lp_F {α : Type} {g : α → Bool} {h : α → α} {f : Nat} {x : α} (e : g x = false) : lp g h f x = x := by
  cases f with
  | zero => rfl
  | succ f =>
    show (if g x = true then lp g h f (h x) else x) = _
    rw [if_neg (by rw [e]; decide)]
theorem lp_inv {α : Type} {g : α → Bool} {h : α → α} {P : α → Prop} (hh : ∀ x, g x = true → P x → P (h x)) : ∀ f x, P x → P (lp g h f x) := by
  intro f
  induction f with
  | zero => intro x hx; exact hx
  | succ f ih =>
    intro x hx
    cases e : g x with
    | true => rw [lp_T e]; exact ih _ (hh x e hx)
    | false => rw [lp_F e]; exact hx
theorem ord_fz (w : Ws T n s) (h : n - pn s < f + 1 ∨ pe s ≠ 0) (h0 : pe s = 0) : n - pn (ord6 T n (s, R)) < f ∨ pe (ord6 T n (s, R)) ≠ 0 := by
  have tl := w.2.2.le
  by_cases he : pe (ord6 T n (s, R)) = 0
  · have := ord_fw w he
    have t2 := (ord_w (x := (s, R)) w).2.2.2.le
    left; omega
  · exact Or.inr he
theorem pOrd_1 : (pOrd T n (s, R)).1 = ord6 T n (s, R) := by rw [pOrd_eq]
theorem pBar_1 : (pBar T n (s, R)).1 = bar6 T n (s, R) := by rw [pBar_eq]
theorem pSec_1 : (pSec T n what (s, R)).1 = sec3 T n what (s, R) := by rw [pSec_eq]
theorem ord_bad (h0 : pe s = 0) (h1 : pWd T s 1 = false) : ord6 T n (s, R) = pChk false 1 s := by
  have b0 : ord0 T n (s, R) = pChk false 1 s := by unfold ord0; dsimp only; rw [h1]
  have ne : pe (pChk false 1 s) ≠ 0 := by rw [pChk_F h0]; exact (show (1 : Nat) ≠ 0 by decide)
  unfold ord6 ord5 ord4 ord3 ord2 ord1
  rw [b0, pChk_e ne, pAdv_e ne, pNum_e ne, pNum_e ne, pNum_e ne, pNum_e ne, pExp_e ne]
theorem ord_many (h0 : pe s = 0) (h1 : pWd T s 1 = true) (hn : ¬ no R < 30) : ord6 T n (s, R) = pChk false 4 s := by
  have b0 : ord0 T n (s, R) = s := by unfold ord0; dsimp only; rw [h1, pChk_T]
  have ne : pe (pChk false 4 s) ≠ 0 := by rw [pChk_F h0]; exact (show (4 : Nat) ≠ 0 by decide)
  have b1 : ord1 T n (s, R) = pChk false 4 s := by
    unfold ord1
    rw [b0]
    dsimp only
    rw [show decide (pe s ≠ 0) = false from decide_eq_false (fun h => h h0), decide_eq_false hn, Bool.or_false, pAdv_e ne]
  unfold ord6 ord5 ord4 ord3 ord2
  rw [b1, pNum_e ne, pNum_e ne, pNum_e ne, pNum_e ne, pExp_e ne]
theorem bar_bad (h1 : pWd T s 12 = false) : bar6 T n (s, R) = pChk false 1 s := by
  have b0 : bar0 T n (s, R) = pChk false 1 s := by unfold bar0; dsimp only; rw [h1]
  have ne : pe (pChk false 1 s) ≠ 0 := by
    by_cases h0 : pe s = 0
    · rw [pChk_F h0]; exact (show (1 : Nat) ≠ 0 by decide)
    · rw [pChk_e h0]; exact h0
  unfold bar6 bar5 bar4 bar3 bar2 bar1
  rw [b0, pChk_e ne, pAdv_e ne, pNum_e ne, pNum_e ne, pNum_e ne, pNum_e ne, pExp_e ne]
theorem pOrd_bad (h : pe (ord6 T n (s, R)) ≠ 0) : pOrd T n (s, R) = (ord6 T n (s, R), R) := by rw [pOrd_eq, if_neg h]
theorem pBar_bad (h : pe (bar6 T n (s, R)) ≠ 0) : pBar T n (s, R) = (bar6 T n (s, R), R) := by rw [pBar_eq, if_neg h]
/-- the orders and the text's end, the class's -/
theorem c_end (h : PC M T n s) (w : Ws T n s) (KV : TM → Prop) (hK : ∀ M', FrT M M' → PC M' T n (if pe s = 0 ∧ pk s ≠ 0 then pChk false 1 s else s) → KV M') : f_X10_readToken (0 : Int32) M KV := by
  unfold f_X10_readToken
  have tl := w.2.2.le
  have tk := w.2.2.ck
  refine c_isAt h w (k := 0) rfl (by decide) ?_
  by_cases h0 : pe s = 0
  · by_cases hk : pk s = 0
    · have e : (decide (pe s = 0) && decide (kc T s = 0)) = true := by unfold kc; rw [h0, if_pos hk]; rfl
      rw [e]
      rw [if_neg (fun c => c.2 hk)] at hK
      refine bF (fun _ => ?_) (fun c => by cases c)
      refine c_adv h w h0 (fun M' f' p' => hK M' f' ?_)
      have es : pAdv T n s = s := by
        rw [pAdv_0 h0]
        have e1 : pn s = n := by have := tl.2.2.2.1 hk; omega
        have e2 : pb s = n := tl.2.2.2.1 hk
        have e3 : scB T n n = n := run_uniq (run_spec isSp T n n) ⟨Nat.le_refl _, fun x h1 h2 => by omega, fun h => by omega⟩
        have e4 : scE T n n = n := by unfold scE; rw [e3, if_neg (by omega)]
        have e5 : scK T n n = 0 := by unfold scK; rw [e3, if_neg (by omega)]
        rw [e1, e3, e4, e5]
        have es : s = (pe s, pa s, pb s, pn s, pk s) := rfl
        rw [es, h0, e1, e2, hk]
      rw [es] at p'
      exact p'
    · have e : (decide (pe s = 0) && decide (kc T s = 0)) = false := by
        have : kc T s ≠ 0 := by
          unfold kc
          rw [if_neg hk]
          unfold ckV
          repeat' split
          all_goals omega
        rw [decide_eq_false this, Bool.and_false]
      rw [e]
      rw [if_pos ⟨h0, hk⟩] at hK
      refine bF (fun c => by cases c) (fun _ => ?_)
      exact c_fail h w (code := 1) rfl (by decide) (fun M' f' p' => hK M' f' p')
  · rw [decide_eq_false h0, Bool.false_and]
    rw [if_neg (fun c => h0 c.1)] at hK
    refine bF (fun c => by cases c) (fun _ => ?_)
    exact c_fail h w (code := 1) rfl (by decide) (fun M' f' p' => hK M' f' (by rw [pChk_e h0] at p'; exact p'))
theorem c_ords (hc : 27 ≤ c) (KV : TM → Prop) : ∀ f i x M, (n - pn x.1 < f ∨ pe x.1 ≠ 0) → IO T n x → PC M T n x.1 → (pe x.1 = 0 → RelC c M x.2 ∧ no x.2 = i) → i ≤ 31 → (∀ M', FrX c M M' → PC M' T n (lp cO (pOrd T n) f x).1 → (pe (lp cO (pOrd T n) f x).1 = 0 → RelC c M' (lp cO (pOrd T n) f x).2) → KV M') → f_X3_parseOrders_L2 c (fun M8 => f_X10_readToken (0 : Int32) M8 (fun M9 => KV M9)) (f + 1) (nI i) M := by
  intro f
  induction f with
  | zero =>
    intro i x M hf hI hP hR hi hK
    have he : pe x.1 ≠ 0 := by rcases hf with h | h; omega; exact h
    have fin : f_X10_readToken (0 : Int32) M (fun M9 => KV M9) := by
      refine c_end hP hI.1 _ (fun M' f' p' => ?_)
      rw [if_neg (fun c => he c.1)] at p'
      exact hK M' (f'.x c) p' (fun h => absurd h he)
    rw [f_X3_parseOrders_L2, show (30 : Int32) = nI 30 from rfl, nI_ltI (by decide) (by omega)]
    refine ⟨fun _ => fin, fun c1 => ?_⟩
    refine c_isAtWord hP hI.1 (by decide) ?_
    rw [pWd_e he]
    exact bF (fun c => by cases c) (fun _ => fin)
  | succ f ih =>
    intro i x M hf hI hP hR hi hK
    obtain ⟨s, R⟩ := x
    obtain ⟨w, wf, hb1⟩ := id hI
    replace hf : n - pn s < f + 1 ∨ pe s ≠ 0 := hf
    replace hP : PC M T n s := hP
    replace hR : pe s = 0 → RelC c M R ∧ no R = i := hR
    replace w : Ws T n s := w
    replace wf : WF 0 R := wf
    have n30 := wf.no30
    have fin : pWd T s 1 = false → f_X10_readToken (0 : Int32) M (fun M9 => KV M9) := fun h1 => by
      refine c_end hP w _ (fun M' f' p' => ?_)
      by_cases h : pe s = 0 ∧ pk s ≠ 0
      · rw [if_pos h] at p'
        have hO : cO (s, R) = true := by unfold cO; rw [decide_eq_true h.1, decide_eq_true h.2]; rfl
        have eb := ord_bad (T := T) (n := n) (R := R) h.1 h1
        have ne : pe (ord6 T n (s, R)) ≠ 0 := by rw [eb, pChk_F h.1]; exact (show (1 : Nat) ≠ 0 by decide)
        have ey : lp cO (pOrd T n) (f + 1) (s, R) = (ord6 T n (s, R), R) := by
          rw [lp_T hO, pOrd_bad ne]
          exact lp_F (by unfold cO; rw [decide_eq_false ne]; rfl)
        rw [ey] at hK
        exact hK M' (f'.x c) (by rw [eb]; exact p') (fun h => absurd h ne)
      · rw [if_neg h] at p'
        have hO : cO (s, R) = false := by
          unfold cO
          rw [Bool.eq_false_iff]
          intro c
          rw [Bool.and_eq_true, decide_eq_true_eq, decide_eq_true_eq] at c
          exact h c
        rw [lp_F hO] at hK
        exact hK M' (f'.x c) p' (fun he => (hR he).1.ft wf hc f')
    rw [f_X3_parseOrders_L2, show (30 : Int32) = nI 30 from rfl, nI_ltI (by decide) (by omega), nI_eq (by omega) (by decide), nI_1]
    refine ⟨fun c1 => fin ?_, fun c1 => ?_⟩
    · rw [Bool.eq_false_iff]
      intro hc1
      have := (hR (pWd_pe hc1).1).2
      omega
    · refine c_isAtWord hP w (by decide) ?_
      refine bF (fun h1 => ?_) (fun h1 => fin h1)
      have h0 := (pWd_pe h1).1
      have hn := (hR h0).2
      have hO : cO (s, R) = true := by unfold cO; rw [decide_eq_true h0, decide_eq_true (show pk s ≠ 0 by rw [(pWd_pe h1).2]; decide)]; rfl
      rw [lp_T hO] at hK
      have hI' := IO_ord hI
      have fz := ord_fz (R := R) w hf h0
      refine ⟨fun c2 => ?_, fun c2 => ?_⟩
      · refine c_ord hc h1 hP w (hR h0).1 wf (by omega) (fun M' f' p' r' => ?_)
        refine ih (i + 1) (pOrd T n (s, R)) M' (by rw [pOrd_1]; exact fz) hI'.1 (by rw [pOrd_1]; exact p') (fun he => ?_) (by omega) (fun M2 f2 p2 r2 => hK M2 (f'.trans f2) p2 r2)
        rw [pOrd_1] at he
        exact ⟨r' he, by rw [hI'.2 he, hn]⟩
      · have b6 := ord_many (T := T) (n := n) (R := R) h0 h1 (by omega)
        have ne : pe (ord6 T n (s, R)) ≠ 0 := by rw [b6, pChk_F h0]; exact (show (4 : Nat) ≠ 0 by decide)
        refine c_fail hP w (code := 4) rfl (by decide) (fun M' f' p' => ?_)
        rw [← b6] at p'
        refine ih (i + 1) (pOrd T n (s, R)) M' (by rw [pOrd_1]; exact Or.inr ne) hI'.1 (by rw [pOrd_1]; exact p') (fun he => absurd (by rw [pOrd_1] at he; exact he) ne) (by omega) (fun M2 f2 p2 r2 => hK M2 ((f'.x c).trans f2) p2 r2)
/-- the canal's reader, the class's -/
theorem c_readWord (h : PC M T n s) (w : Ws T n s) (ha : a < 14) (hK : ∀ M', FrT M M' → PC M' T n (pAdv T n (pChk (pWd T s a) 1 s)) → KV M') : f_X10_readWord a M KV := by
  unfold f_X10_readWord
  refine c_isAtWord h w ha ?_
  refine bF (fun h1 => ?_) (fun h1 => ?_)
  · rw [h1, pChk_T] at hK
    exact c_adv h w (pWd_pe h1).1 hK
  · rw [h1] at hK
    refine c_fail h w (code := 1) rfl (by decide) (fun M' f' p' => hK M' f' ?_)
    by_cases h0 : pe s = 0
    · rw [pChk_F h0] at p' ⊢
      rw [pAdv_e (show (1 : Nat) ≠ 0 by decide)]
      exact p'
    · rw [pChk_e h0] at p' ⊢
      rw [pAdv_e h0]
      exact p'
theorem Zr_Fresh : Fresh (Zr R v) := fun b _ h5 => ⟨Zr_i (by omega) (by omega), Zr_i (by omega) (by omega)⟩
theorem Zr_Br : Br (Zr R v) := fun j hj => ⟨0, by decide, Zr_i (by omega) (by omega)⟩
theorem hd1_w (w : Ws T n s) : Ws T n (hd1 T n s) := (w.chk (by decide)).adv
theorem hd2_w (w : Ws T n s) : Ws T n (hd2 T n s) := (hd1_w w).num.exp 59
theorem IS_0 (w : Ws T n s) : IS T n (pCan0 T n (s, R)) := by
  have rg := pLv_rng (T := T) (s := hd1 T n s) (show 3 ≤ 16 by decide)
  exact IS_mk (hd2_w w) (wf_Zr 0 rg.1 rg.2) Zr_Fresh Zr_no Zr_Br Zr_nb
theorem IS_1 (w : Ws T n s) : IS T n (pCan1 T n (s, R)) := by
  refine lp_inv (P := IS T n) (fun x hx h => ?_) _ _ (IS_0 w)
  obtain ⟨s', R'⟩ := x
  unfold gS
  split
  · exact IS_sec (Or.inl rfl) h
  · exact IS_sec (Or.inr rfl) h
theorem IB_1 (w : Ws T n s) : IB T n (pCan1 T n (s, R)) := ⟨(IS_1 w).1, (IS_1 w).2.1, (IS_1 w).2.2.1, (IS_1 w).2.2.2.1⟩
theorem IB_b (h : IB T n x) : IB T n (pBar T n x) := by
  obtain ⟨s', R'⟩ := x
  exact (IB_bar h).1
theorem IB_2 (w : Ws T n s) : IB T n (pCan2 T n (s, R)) := lp_inv (P := IB T n) (fun x _ h => IB_b h) _ _ (IB_b (IB_1 w))
theorem nb_2 (w : Ws T n s) (h : pe (pCan2 T n (s, R)).1 = 0) : 1 ≤ nb (pCan2 T n (s, R)).2 := by
  have key : ∀ x : PR, IB T n x → (pe (pBar T n x).1 = 0 → 1 ≤ nb (pBar T n x).2) := fun x hx he => by
    obtain ⟨s', R'⟩ := x
    rw [pBar_1] at he
    rw [(IB_bar hx).2 he]
    omega
  have := lp_inv (P := fun y : PR => IB T n y ∧ (pe y.1 = 0 → 1 ≤ nb y.2)) (g := cB T) (h := pBar T n) (fun x _ hx => ⟨IB_b hx.1, key x hx.1⟩) 501 (pBar T n (pCan1 T n (s, R))) ⟨IB_b (IB_1 w), key _ (IB_1 w)⟩
  unfold pCan2 at h ⊢
  exact this.2 h
theorem IO_2 (w : Ws T n s) : IO T n (pCan2 T n (s, R)) := ⟨(IB_2 w).1, (IB_2 w).2.1, nb_2 w⟩
theorem IO_o (h : IO T n x) : IO T n (pOrd T n x) := by
  obtain ⟨s', R'⟩ := x
  exact (IO_ord h).1
theorem IO_3 (w : Ws T n s) : IO T n (pCan T n (s, R)) := lp_inv (P := IO T n) (fun x _ h => IO_o h) _ _ (IO_2 w)
theorem c_parse (hc : 27 ≤ c) (h : PC M T n s) (w : Ws T n s) (R : Nat → Int32) (hK : ∀ M', FrX c M M' → PC M' T n (pCan T n (s, R)).1 → (pe (pCan T n (s, R)).1 = 0 → RelC c M' (pCan T n (s, R)).2) → KV M') : f_X3_parse c M KV := by
  unfold f_X3_parse
  have wn := w.1
  refine c_readWord h w (by decide) (fun M1 f1 h1 => ?_)
  have w1 := hd1_w w
  refine c_readNumber (s := hd1 T n s) h1 w1 (lo := 3) (hi := 16) rfl rfl (by decide) (by decide) (fun M2 f2 h2 => ?_)
  refine c_clear c M2 R _ (fun M3 f3 r3 => ?_)
  have h3 : PC M3 T n (pNum T n 3 16 (hd1 T n s)) := h2.fr (f3 1 (by omega)) (f3 2 (by omega))
  refine c_readToken h3 w1.num (x' := 59) (kk := 5) rfl (Or.inl ⟨rfl, rfl⟩) (fun M4 f4 h4 => ?_)
  have I0 := IS_0 (R := R) w
  have fx : FrX c M M4 := ⟨fun i i1 i2 => by rw [f4.1 i i1, f3 i i2, f2.1 i i1, f1.1 i i1], fun j hj => by rw [f4.2 j hj, f3 1 (by omega), f2.2 j hj, f1.2 j hj]⟩
  have r4 : RelC c M4 (pCan0 T n (s, R)).2 := r3.ft I0.2.1 hc f4
  have h4' : PC M4 T n (pCan0 T n (s, R)).1 := h4
  have tl0 := I0.1.2.2.le
  unfold f_X3_parseSections
  refine ⟨502, c_secs hc _ 501 0 (pCan0 T n (s, R)) M4 (Or.inl (by omega)) I0 h4' (fun _ => r4) (fun hc1 => ?_) (fun M5 f5 h5 r5 => ?_) (by decide)⟩
  · have hk : pk (pCan0 T n (s, R)).1 = 1 := by
      unfold cS at hc1
      rw [Bool.or_eq_true] at hc1
      rcases hc1 with h | h <;> exact (pWd_pe h).2
    have := tl0.2.2.2.2 (by omega)
    omega
  have I1 := IB_1 (R := R) w
  have I1s := IS_1 (R := R) w
  have h5' : PC M5 T n (pCan1 T n (s, R)).1 := h5
  have r5' : pe (pCan1 T n (s, R)).1 = 0 → RelC c M5 (pCan1 T n (s, R)).2 := r5
  have n1 : nb (pCan1 T n (s, R)).2 = 0 := I1s.2.2.2.2.2
  clear h5 r5 h4 h4' r4
  unfold f_X3_parseBarges
  have eL : pCan2 T n (s, R) = lp (cB T) (pBar T n) 501 (pBar T n (pCan1 T n (s, R))) := rfl
  obtain ⟨y, ey⟩ : ∃ y, y = pCan1 T n (s, R) := ⟨_, rfl⟩
  rw [← ey] at I1 h5' r5' n1 eL
  clear I1s
  obtain ⟨s1, R1⟩ := y
  have tl1 := I1.1.2.2.le
  have next : ∀ M6, FrX c M5 M6 → PC M6 T n (pCan2 T n (s, R)).1 → (pe (pCan2 T n (s, R)).1 = 0 → RelC c M6 (pCan2 T n (s, R)).2) → f_X3_parseOrders c M6 (fun M8 => f_X10_readToken (0 : Int32) M8 (fun M9 => KV M9)) := fun M6 f6 h6 r6 => by
    have I2 := IO_2 (R := R) w
    have o2 : no (pCan2 T n (s, R)).2 = 0 := (IB_2 w).2.2.2
    have tl2 := I2.1.2.2.le
    unfold f_X3_parseOrders
    unfold pCan at hK
    exact ⟨502, c_ords hc KV 501 0 (pCan2 T n (s, R)) M6 (Or.inl (by omega)) I2 h6 (fun he => ⟨r6 he, o2⟩) (by decide) (fun M7 f7 h7 r7 => hK M7 ((fx.trans f5).trans (f6.trans f7)) h7 r7)⟩
  refine c_isAtWord h5' I1.1 (by decide) ?_
  refine bT (fun hb => ?_) (fun hb => ?_)
  · have e2 : lp (cB T) (pBar T n) 502 (s1, R1) = pCan2 T n (s, R) := by rw [eL]; exact lp_T hb
    refine ⟨503, c_bars hc _ 502 0 (s1, R1) M5 (Or.inl (by show n - pn s1 < 502; omega)) I1 h5' (fun he => ⟨r5' he, n1⟩) (by decide) (fun M6 f6 h6 r6 => ?_)⟩
    rw [e2] at h6 r6
    exact next M6 f6 h6 r6
  · have b6 := bar_bad (T := T) (n := n) (R := R1) hb
    have ne : pe (bar6 T n (s1, R1)) ≠ 0 := by
      rw [b6]
      by_cases h0 : pe s1 = 0
      · rw [pChk_F h0]; exact (show (1 : Nat) ≠ 0 by decide)
      · rw [pChk_e h0]; exact h0
    have e2 : pCan2 T n (s, R) = (bar6 T n (s1, R1), R1) := by
      rw [eL, pBar_bad ne]
      exact lp_F (pWd_e ne)
    refine c_fail h5' I1.1 (code := 1) rfl (by decide) (fun M' f' p' => ?_)
    rw [← b6] at p'
    have w6 := (bar_w (x := (s1, R1)) I1.1).2
    have I6 : IB T n (bar6 T n (s1, R1), R1) := IB_mk w6 I1.2.1 I1.2.2.1 I1.2.2.2
    clear b6 w6
    generalize bar6 T n (s1, R1) = s6 at ne e2 p' I6
    refine ⟨503, c_bars hc _ 502 0 (s6, R1) M' (Or.inr ne) I6 p' (fun he => absurd he ne) (by decide) (fun M6 f6 h6 r6 => ?_)⟩
    rw [lp_F (g := cB T) (h := pBar T n) (show cB T (s6, R1) = false from pWd_e ne)] at h6 r6
    exact next M6 ((f'.x c).trans f6) (by rw [e2]; exact h6) (fun he => absurd (by rw [e2] at he; exact he) ne)
end CANAL2
