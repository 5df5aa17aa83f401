/-! a whole canal is read, the model's -/
section MCANAL
variable {c' : Bool} {i : Nat} {M M1 M' : TM} {T : Nat → Nat} {n : Nat} {s : PS} {x y : PR} {K : Int32 → TM → Prop} {KV : TM → Prop} {p q u v : Int32} {R R' : Nat → Int32} {a b c d e f j k m x' lo hi code U r sl what : Nat}
theorem sec_fz (w : Ws T n s) (h : n - pn s < f + 1 ∨ pe s ≠ 0) (h0 : pe s = 0) : n - pn (sec3 T n what (s, R)) < f ∨ pe (sec3 T n what (s, R)) ≠ 0 := by
  have tl := w.2.2.le
  by_cases he : pe (sec3 T n what (s, R)) = 0
  · have := sec_fw w he
    have t2 := (sec_w (R := R) (what := what) w).2.2.le
    left; omega
  · exact Or.inr he
theorem bar_fz (w : Ws T n s) (h : n - pn s < f + 1 ∨ pe s ≠ 0) (h0 : pe s = 0) : n - pn (bar6 T n (s, R)) < f ∨ pe (bar6 T n (s, R)) ≠ 0 := by
  have tl := w.2.2.le
  by_cases he : pe (bar6 T n (s, R)) = 0
  · have := bar_fw w he
    have t2 := (bar_w (x := (s, R)) w).2.2.2.le
    left; omega
  · exact Or.inr he
theorem m_L100 (KV : TM → Prop) : ∀ f x M, (n - pn x.1 < f ∨ pe x.1 ≠ 0) → IO T n x → Rw M r → M r = x.2 → PM M T n x.1 → (∀ M', FrN r M M' → PM M' T n (lp cO (pOrd T n) f x).1 → M' r = (lp cO (pOrd T n) f x).2 → KV M') → f_X13_readCanal_L100 KV (f + 1) M := by
  intro f
  induction f with
  | zero =>
    intro x M hf hI hr hR hP hK
    have he : pe x.1 ≠ 0 := by rcases hf with h | h; omega; exact h
    have he9 := hI.1.2.1
    rw [f_X13_readCanal_L100, hP.2.1, show (0 : Int32) = nI 0 from rfl, nI_eq (by omega) (by decide)]
    exact cN he (hK M (FrN.refl _ _) hP hR)
  | succ f ih =>
    intro x M hf hI hr hR hP hK
    obtain ⟨s, R⟩ := x
    obtain ⟨w, wf, hb1⟩ := id hI
    replace hf : n - pn s < f + 1 ∨ pe s ≠ 0 := hf
    replace hP : PM M T n s := hP
    replace hR : M r = R := hR
    replace w : Ws T n s := w
    replace wf : WF 0 R := wf
    have he9 := w.2.1
    have tl := w.2.2.le
    have done : cO (s, R) = false → KV M := fun h => by
      rw [lp_F h] at hK
      exact hK M (FrN.refl _ _) hP hR
    rw [f_X13_readCanal_L100, hP.2.1, hP.2.2.2.2.1, show (0 : Int32) = nI 0 from rfl, nI_eq (by omega) (by decide), nI_eq (by omega) (by decide)]
    refine ⟨fun c1 => done (by unfold cO; rw [decide_eq_false c1]; rfl), fun c1 => ⟨fun c2 => done (by unfold cO; rw [show decide (pk s ≠ 0) = false from decide_eq_false (fun h => h c2), Bool.and_false]), fun c2 => ?_⟩⟩
    have hO : cO (s, R) = true := by unfold cO; rw [decide_eq_true c1, decide_eq_true c2]; rfl
    rw [lp_T hO] at hK
    have hI' := (IO_ord hI).1
    have fz := ord_fz (R := R) w hf c1
    refine m_ord hr hR hP w wf (fun M' f' p' r' => ?_)
    exact ih (pOrd T n (s, R)) M' (by rw [pOrd_1]; exact fz) hI' (hr.fm f') r' (by rw [pOrd_1]; exact p') (fun M2 f2 p2 r2 => hK M2 (f'.trans f2) p2 r2)
theorem m_L83 (KV : TM → Prop) : ∀ f x M, (n - pn x.1 < f ∨ pe x.1 ≠ 0) → IB T n x → Rw M r → M r = x.2 → PM M T n x.1 → (∀ M', FrN r M M' → PM M' T n (lp (cB T) (pBar T n) f x).1 → M' r = (lp (cB T) (pBar T n) f x).2 → ∃ n, f_X13_readCanal_L100 KV n M') → f_X13_readCanal_L83 KV (f + 1) M := by
  intro f
  induction f with
  | zero =>
    intro x M hf hI hr hR hP hK
    have he : pe x.1 ≠ 0 := by rcases hf with h | h; omega; exact h
    rw [f_X13_readCanal_L83]
    refine m_isWord hP hI.1 (by decide) ?_
    rw [pWd_e he]
    exact bF (fun c => by cases c) (fun _ => hK M (FrN.refl _ _) hP hR)
  | succ f ih =>
    intro x M hf hI hr hR hP hK
    obtain ⟨s, R⟩ := x
    obtain ⟨w, wf, fr, o0⟩ := id hI
    replace hf : n - pn s < f + 1 ∨ pe s ≠ 0 := hf
    replace hP : PM M T n s := hP
    replace hR : M r = R := hR
    replace w : Ws T n s := w
    replace wf : WF 0 R := wf
    rw [f_X13_readCanal_L83]
    refine m_isWord hP w (by decide) ?_
    refine bF (fun h1 => ?_) (fun h1 => ?_)
    · rw [lp_T (g := cB T) (show cB T (s, R) = true from h1)] at hK
      have hI' := (IB_bar hI).1
      have fz := bar_fz (R := R) w hf (pWd_pe h1).1
      refine m_bar hr hR hP w wf (fun M' f' p' r' => ?_)
      exact ih (pBar T n (s, R)) M' (by rw [pBar_1]; exact fz) hI' (hr.fm f') r' (by rw [pBar_1]; exact p') (fun M2 f2 p2 r2 => hK M2 (f'.trans f2) p2 r2)
    · rw [lp_F (g := cB T) (show cB T (s, R) = false from h1)] at hK
      exact hK M (FrN.refl _ _) hP hR
theorem m_L35 (KV : TM → Prop) : ∀ f x M, (n - pn x.1 < f ∨ pe x.1 ≠ 0) → IS T n x → Rw M r → M r = x.2 → PM M T n x.1 → (∀ M', FrN r M M' → PM M' T n (lp (cS T) (gS T n) f x).1 → M' r = (lp (cS T) (gS T n) f x).2 → f_X13_readBarge M' (fun M24 => ∃ n, f_X13_readCanal_L83 KV n M24)) → f_X13_readCanal_L35 KV (f + 1) M := by
  intro f
  induction f with
  | zero =>
    intro x M hf hI hr hR hP hK
    have he : pe x.1 ≠ 0 := by rcases hf with h | h; omega; exact h
    rw [f_X13_readCanal_L35]
    refine m_isWord hP hI.1 (by decide) ?_
    rw [pWd_e he]
    refine bT (fun c => by cases c) (fun _ => ?_)
    refine m_isWord hP hI.1 (by decide) ?_
    rw [pWd_e he]
    exact bF (fun c => by cases c) (fun _ => hK M (FrN.refl _ _) hP hR)
  | succ f ih =>
    intro x M hf hI hr hR hP hK
    obtain ⟨s, R⟩ := x
    obtain ⟨w, wf, fr, o0, br, n0⟩ := id hI
    replace hf : n - pn s < f + 1 ∨ pe s ≠ 0 := hf
    replace hP : PM M T n s := hP
    replace hR : M r = R := hR
    replace w : Ws T n s := w
    replace wf : WF 0 R := wf
    have step : ∀ (what : Nat) (p : Int32), (what = 10 ∨ what = 25) → p = nI what → cS T (s, R) = true → pe s = 0 → gS T n (s, R) = pSec T n what (s, R) → f_X13_readSection p M (fun M10 => f_X13_readCanal_L35 KV (f + 1) M10) := fun what p hw ep hc1 h0 eg => by
      rw [lp_T hc1, eg] at hK
      have fz := sec_fz (R := R) (what := what) w hf h0
      refine m_sec hw hr hR hP w wf ep (fun M' f' p' r' => ?_)
      exact ih (pSec T n what (s, R)) M' (by rw [pSec_1]; exact fz) (IS_sec hw hI) (hr.fm f') r' (by rw [pSec_1]; exact p') (fun M2 f2 p2 r2 => hK M2 (f'.trans f2) p2 r2)
    rw [f_X13_readCanal_L35]
    refine m_isWord hP w (by decide) ?_
    refine bT (fun h1 => ?_) (fun h1 => ?_)
    · refine m_isWord hP w (by decide) ?_
      rw [h1]
      refine bF (fun _ => ?_) (fun c => by cases c)
      exact step 10 10 (Or.inl rfl) rfl (by unfold cS; rw [h1]; rfl) (pWd_pe h1).1 (by unfold gS; rw [if_pos h1])
    · refine m_isWord hP w (by decide) ?_
      refine bF (fun h2 => ?_) (fun h2 => ?_)
      · refine m_isWord hP w (by decide) ?_
        rw [h1]
        refine bF (fun c => by cases c) (fun _ => ?_)
        exact step 25 25 (Or.inr rfl) rfl (by unfold cS; rw [h2, Bool.or_true]) (pWd_pe h2).1 (by unfold gS; rw [if_neg (by rw [h1]; decide)])
      · rw [lp_F (g := cS T) (show cS T (s, R) = false by unfold cS; rw [h1, h2]; rfl)] at hK
        exact hK M (FrN.refl _ _) hP hR
theorem m_readCanal (hr : Rw M r) (hR : M r = R) (h : PM M T n s) (w : Ws T n s) (hK : ∀ M', FrN r M M' → PM M' T n (pCan T n (s, R)).1 → M' r = (pCan T n (s, R)).2 → KV M') : f_X13_readCanal M KV := by
  unfold f_X13_readCanal
  have r7 := hr.r7
  refine m_isWord h w (by decide) ?_
  refine m_check h w rfl (code := 1) rfl (by decide) (fun M1 f1 h1 => ?_)
  refine m_adv h1 (w.chk (by decide)) (fun M2 f2 h2 => ?_)
  have w1 := hd1_w w
  refine m_readNumber (s := hd1 T n s) h2 w1 (lo := 3) (hi := 16) rfl rfl (by decide) (by decide) (fun M3 f3 h3 => ?_)
  refine m_expect h3 w1.num (x' := 59) rfl (by decide) (fun M4 f4 h4 => ?_)
  have ft : FrM M M4 := (f1.trans f2).trans (f3.trans f4)
  have hr4 := hr.fm (ft.toN r)
  have hR4 : M4 r = R := by rw [ft.1 r r7.1]; exact hR
  have I0 := IS_0 (R := R) w
  have tl0 := I0.1.2.2.le
  have wn := w.1
  have rest : ∃ n', f_X13_readCanal_L35 KV n' (uR M4 r (pCan0 T n (s, R)).2) := by
    have f5 : FrN r M4 (uR M4 r (pCan0 T n (s, R)).2) := ⟨fun i i1 i2 => uR_n i2, fun j hj => by rw [uR_n r7.1.symm]⟩
    have p5 : PM (uR M4 r (pCan0 T n (s, R)).2) T n (pCan0 T n (s, R)).1 := PM.fr (s := hd2 T n s) h4 (uR_n r7.1.symm) (uR_n r7.2.symm)
    refine ⟨502, m_L35 KV 501 (pCan0 T n (s, R)) _ (Or.inl (by omega)) I0 (hr4.fm f5) (uR_s _ _ _) p5 (fun M6 f6 p6 r6 => ?_)⟩
    have I1 := IB_1 (R := R) w
    have p6' : PM M6 T n (pCan1 T n (s, R)).1 := p6
    have r6' : M6 r = (pCan1 T n (s, R)).2 := r6
    clear p6 r6
    have eL : pCan2 T n (s, R) = lp (cB T) (pBar T n) 501 (pBar T n (pCan1 T n (s, R))) := rfl
    obtain ⟨y, ey⟩ : ∃ y, y = pCan1 T n (s, R) := ⟨_, rfl⟩
    rw [← ey] at I1 p6' r6' eL
    obtain ⟨s1, R1⟩ := y
    have f06 : FrN r M M6 := ((ft.toN r).trans f5).trans f6
    refine m_bar (hr.fm f06) r6' p6' I1.1 I1.2.1 (fun M7 f7 p7 r7' => ?_)
    have I2' : IB T n (pBar T n (s1, R1)) := (IB_bar I1).1
    have tl2 := I2'.1.2.2.le
    refine ⟨502, m_L83 KV 501 (pBar T n (s1, R1)) M7 (Or.inl (by omega)) I2' (hr.fm (f06.trans f7)) r7' (by rw [pBar_1]; exact p7) (fun M8 f8 p8 r8 => ?_)⟩
    rw [← eL] at p8 r8
    have I3 := IO_2 (R := R) w
    have tl3 := I3.1.2.2.le
    have f08 := (f06.trans f7).trans f8
    unfold pCan at hK
    exact ⟨502, m_L100 KV 501 (pCan2 T n (s, R)) M8 (Or.inl (by omega)) I3 (hr.fm f08) r8 p8 (fun M9 f9 p9 r9 => hK M9 (f08.trans f9) p9 r9)⟩
  have fin := m_begin (KV := fun M9 => ∃ n, f_X13_readCanal_L35 KV n M9) (R := R) (p := nI (pLv T 3 16 (hd1 T n s))) hr4 rest
  rw [uR_self hR4] at fin
  exact fin
end MCANAL
